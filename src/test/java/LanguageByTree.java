import com.sun.source.tree.BinaryTree;
import com.sun.source.tree.ClassTree;
import com.sun.source.tree.CompilationUnitTree;
import com.sun.source.tree.DoWhileLoopTree;
import com.sun.source.tree.ForLoopTree;
import com.sun.source.tree.MethodInvocationTree;
import com.sun.source.tree.MethodTree;
import com.sun.source.tree.NewArrayTree;
import com.sun.source.tree.NewClassTree;
import com.sun.source.tree.Tree;
import com.sun.source.tree.TypeCastTree;
import com.sun.source.tree.VariableTree;
import com.sun.source.tree.WhileLoopTree;
import com.sun.source.util.JavacTask;
import com.sun.source.util.TreePath;
import com.sun.source.util.TreePathScanner;
import com.sun.source.util.Trees;
import java.nio.file.Path;
import java.util.ArrayList;
import java.util.EnumSet;
import java.util.List;
import java.util.Map;
import java.util.Set;
import java.util.TreeMap;
import java.util.TreeSet;
import javax.lang.model.element.Element;
import javax.lang.model.element.ElementKind;
import javax.lang.model.element.Modifier;
import javax.lang.model.type.ArrayType;
import javax.lang.model.type.TypeKind;
import javax.lang.model.type.TypeMirror;
import javax.tools.JavaCompiler;
import javax.tools.StandardJavaFileManager;
import javax.tools.ToolProvider;

/** Rules of LANGUAGE.md that can be seen in the compiler's tree of the class: who calls whom, what is made and where. */
public final class LanguageByTree {
    private static final int DEEPEST = 8;
    private static final Set<String> LIBRARY = Set.of("Math.max", "Math.min", "Math.abs", "System.arraycopy", "Arrays.fill",
        "Arrays.copyOf", "Arrays.copyOfRange", "Array.clone", "Object.<init>");
    // What a run makes, beside what constructors make: a task, its row of causes, a timer.
    private static final Set<String> MAKERS = Set.of("LaneStore.comeIfCan", "LaneStore.every", "Task.addCause");
    // These test the divisor on the same line.
    private static final Set<String> TESTED_DIVISORS = Set.of("LaneStore.thousandths: whole", "Draws.next: m");
    private static final Set<Tree.Kind> RULED_OUT = EnumSet.of(Tree.Kind.LAMBDA_EXPRESSION, Tree.Kind.MEMBER_REFERENCE,
        Tree.Kind.THROW, Tree.Kind.TRY, Tree.Kind.CATCH, Tree.Kind.SYNCHRONIZED, Tree.Kind.ASSERT, Tree.Kind.UNION_TYPE);
    private static int wrong = 0;

    private static void must(boolean holds, String what) {
        if (!holds) {
            wrong++;
            System.out.println("not so: " + what);
        }
    }

    public static void main(String[] args) throws Exception {
        JavaCompiler compiler = ToolProvider.getSystemJavaCompiler();
        try (StandardJavaFileManager files = compiler.getStandardFileManager(null, null, null)) {
            JavacTask task = (JavacTask) compiler.getTask(null, files, null, List.of("--release", "17", "-proc:none"), null,
                files.getJavaFileObjects(Path.of("src/main/java/LaneStore.java")));
            Iterable<? extends CompilationUnitTree> units = task.parse();
            task.analyze();
            Reader reader = new Reader(Trees.instance(task));
            for (CompilationUnitTree unit : units) {
                reader.scan(unit, null);
            }
            reader.judge();
        }
        System.out.println(wrong == 0 ? "the tree keeps to the language" : wrong + " rules are broken");
        if (wrong != 0) {
            System.exit(1);
        }
    }

    private static final class Reader extends TreePathScanner<Void, Void> {
        final Trees trees;
        final Map<String, Set<String>> calls = new TreeMap<>();
        final Set<String> faces = new TreeSet<>();

        Reader(Trees trees) {
            this.trees = trees;
        }

        // ---- where one is

        String nameOf(Element e) {
            return e.getEnclosingElement().getSimpleName() + "." + e.getSimpleName();
        }

        /** The method that holds what is read now; what initialises a field belongs to the constructor. */
        String here() {
            for (TreePath p = getCurrentPath(); p != null; p = p.getParentPath()) {
                if (p.getLeaf() instanceof MethodTree) {
                    return nameOf(trees.getElement(p));
                }
                if (p.getLeaf() instanceof ClassTree) {
                    return trees.getElement(p).getSimpleName() + ".<init>";
                }
            }
            return "";
        }

        TypeMirror typeOf(Tree t) {
            return trees.getTypeMirror(new TreePath(getCurrentPath(), t));
        }

        void addCall(Element to) {
            boolean own = to.getEnclosingElement().toString().startsWith("LaneStore");
            if (own) {
                calls.computeIfAbsent(here(), k -> new TreeSet<>()).add(nameOf(to));
            } else {
                must(LIBRARY.contains(nameOf(to)), here() + " calls " + nameOf(to) + ", which rule 4 leaves out");
            }
        }

        // ---- reading

        @Override
        public Void scan(Tree t, Void v) {
            if (t != null) {
                must(!RULED_OUT.contains(t.getKind()), "rules 2 and 6 leave out " + t.getKind() + " in " + t);
            }
            return super.scan(t, v);
        }

        @Override
        public Void visitClass(ClassTree t, Void v) {
            Element e = trees.getElement(getCurrentPath());
            Element outer = e.getEnclosingElement();
            boolean inside = outer.getKind() == ElementKind.CLASS;
            must(inside || outer.getKind() == ElementKind.PACKAGE, e + " is local or without a name");
            must(!inside || e.getModifiers().contains(Modifier.STATIC), e + " is static");
            return super.visitClass(t, v);
        }

        @Override
        public Void visitMethod(MethodTree t, Void v) {
            Element e = trees.getElement(getCurrentPath());
            if (e.getModifiers().contains(Modifier.PUBLIC)) {
                faces.add(nameOf(e));
            }
            must(t.getParameters().size() <= 7, nameOf(e) + " has at most seven parameters");
            return super.visitMethod(t, v);
        }

        @Override
        public Void visitMethodInvocation(MethodInvocationTree t, Void v) {
            addCall(trees.getElement(getCurrentPath()));
            return super.visitMethodInvocation(t, v);
        }

        @Override
        public Void visitNewClass(NewClassTree t, Void v) {
            must(t.getClassBody() == null, "a class without a name in " + here());
            addCall(trees.getElement(getCurrentPath()));
            made(t);
            return super.visitNewClass(t, v);
        }

        @Override
        public Void visitNewArray(NewArrayTree t, Void v) {
            boolean constant = getCurrentPath().getParentPath().getLeaf() instanceof VariableTree held
                && held.getModifiers().getFlags().contains(Modifier.STATIC);
            if (!constant) {
                made(t);
            }
            return super.visitNewArray(t, v);
        }

        void made(Tree t) {
            must(here().endsWith(".<init>") || MAKERS.contains(here()), here() + " makes " + t);
            if (!here().endsWith(".<init>")) {
                for (TreePath p = getCurrentPath(); !(p.getLeaf() instanceof MethodTree); p = p.getParentPath()) {
                    must(!(p.getLeaf() instanceof ForLoopTree) && !(p.getLeaf() instanceof WhileLoopTree), t + " is made in a loop");
                }
            }
        }

        @Override
        public Void visitVariable(VariableTree t, Void v) {
            Element e = trees.getElement(getCurrentPath());
            TypeMirror type = e.asType();
            if (type instanceof ArrayType row && row.getComponentType() instanceof ArrayType inner) {
                must(inner.getComponentType().getKind().isPrimitive(), t + ": rows of rows hold numbers");
            }
            if (e.getModifiers().contains(Modifier.STATIC)) {
                must(e.getModifiers().contains(Modifier.FINAL), t + " is final");
                boolean row = type instanceof ArrayType a && a.getComponentType().getKind().isPrimitive()
                    && t.getInitializer() instanceof NewArrayTree;
                must(row || type.getKind().isPrimitive(), t + " is a constant as rule 5 has it");
            }
            return super.visitVariable(t, v);
        }

        @Override
        public Void visitTypeCast(TypeCastTree t, Void v) {
            must(typeOf(t.getType()).getKind().isPrimitive(), t + " casts numbers alone");
            return super.visitTypeCast(t, v);
        }

        @Override
        public Void visitBinary(BinaryTree t, Void v) {
            boolean divides = t.getKind() == Tree.Kind.DIVIDE || t.getKind() == Tree.Kind.REMAINDER;
            if (divides) {
                String by = t.getRightOperand().toString();
                must(by.matches("[1-9]\\d*L?") || by.matches("Math\\.max\\([1-9]\\d*, .*\\)")
                    || TESTED_DIVISORS.contains(here() + ": " + by), here() + " tests the divisor of " + t);
            }
            must(t.getKind() != Tree.Kind.PLUS || typeOf(t.getLeftOperand()).getKind() != TypeKind.DECLARED, t + " joins texts");
            return super.visitBinary(t, v);
        }

        @Override
        public Void visitForLoop(ForLoopTree t, Void v) {
            must(t.getCondition() != null && !t.getUpdate().isEmpty(), "a loop in " + here() + " shows its end");
            return super.visitForLoop(t, v);
        }

        @Override
        public Void visitWhileLoop(WhileLoopTree t, Void v) {
            must(!t.getCondition().toString().equals("(true)"), "a loop in " + here() + " shows its end");
            return super.visitWhileLoop(t, v);
        }

        @Override
        public Void visitDoWhileLoop(DoWhileLoopTree t, Void v) {
            must(!t.getCondition().toString().equals("(true)"), "a loop in " + here() + " shows its end");
            return super.visitDoWhileLoop(t, v);
        }

        // ---- judging who calls whom

        void judge() {
            must(faces.size() == 53, "a constructor and 52 methods are public, not " + faces.size());
            for (String face : faces) {
                follow(face, new ArrayList<>());
            }
            Set<String> used = new TreeSet<>(faces);
            for (Set<String> called : calls.values()) {
                used.addAll(called);
            }
            for (String caller : calls.keySet()) {
                must(used.contains(caller), caller + " is called by none");
            }
        }

        void follow(String method, List<String> above) {
            if (above.contains(method)) {
                must(false, method + " calls itself, by " + above);
                return;
            }
            List<String> path = new ArrayList<>(above);
            path.add(method);
            must(path.size() <= DEEPEST, "calls go deeper than " + DEEPEST + ": " + path);
            if (path.size() <= DEEPEST) {
                for (String next : calls.getOrDefault(method, Set.of())) {
                    follow(next, path);
                }
            }
        }
    }
}
