import com.sun.source.tree.BinaryTree;
import com.sun.source.tree.BlockTree;
import com.sun.source.tree.ClassTree;
import com.sun.source.tree.CompilationUnitTree;
import com.sun.source.tree.CompoundAssignmentTree;
import com.sun.source.tree.ForLoopTree;
import com.sun.source.tree.IdentifierTree;
import com.sun.source.tree.LiteralTree;
import com.sun.source.tree.MethodInvocationTree;
import com.sun.source.tree.MethodTree;
import com.sun.source.tree.NewArrayTree;
import com.sun.source.tree.NewClassTree;
import com.sun.source.tree.Tree;
import com.sun.source.tree.VariableTree;
import com.sun.source.util.JavacTask;
import com.sun.source.util.TreePathScanner;
import com.sun.source.util.Trees;
import java.io.File;
import java.util.HashMap;
import java.util.LinkedHashSet;
import java.util.List;
import java.util.Map;
import java.util.Set;
import javax.lang.model.element.Element;
import javax.lang.model.element.ExecutableElement;
import javax.lang.model.element.Modifier;
import javax.tools.JavaCompiler;
import javax.tools.StandardJavaFileManager;
import javax.tools.ToolProvider;

/** The source by the rules of LANGUAGE.md, as far as a program can look. */
public final class LanguageTest {
    private static final Set<String> LIBRARY = Set.of("java.lang.String.length", "java.lang.String.charAt", "java.lang.Math.max", "java.lang.Math.min", "java.lang.System.arraycopy", "java.lang.Object.<init>");
    private static final Set<String> STATIC_TYPES = Set.of("int", "long", "boolean", "char", "java.lang.String", "int[]", "long[]", "char[]", "byte[]");

    private static final Set<Tree.Kind> RULED_OUT = Set.of(Tree.Kind.THROW, Tree.Kind.TRY, Tree.Kind.CATCH, Tree.Kind.SYNCHRONIZED, Tree.Kind.ASSERT, Tree.Kind.LAMBDA_EXPRESSION,
        Tree.Kind.MEMBER_REFERENCE, Tree.Kind.DO_WHILE_LOOP, Tree.Kind.YIELD, Tree.Kind.ANNOTATION, Tree.Kind.DOUBLE_LITERAL, Tree.Kind.FLOAT_LITERAL);

    private static Trees trees;
    private static CompilationUnitTree unit;
    private static final Map<Element, Set<Element>> CALLS = new HashMap<>();
    private static final Set<String> PUBLIC = new LinkedHashSet<>();
    private static final Set<Element> METHODS = new LinkedHashSet<>();

    public static void main(String[] args) throws Exception {
        JavaCompiler compiler = ToolProvider.getSystemJavaCompiler();
        StandardJavaFileManager files = compiler.getStandardFileManager(null, null, null);
        JavacTask task = (JavacTask) compiler.getTask(null, files, null, List.of("-proc:none"), null, files.getJavaFileObjects(new File("src/main/java/SealedTokens.java")));
        unit = task.parse().iterator().next();
        task.analyze();
        trees = Trees.instance(task);
        Check.that("no import, no package", unit.getImports().isEmpty() && unit.getPackageName() == null && unit.getTypeDecls().size() == 1);
        new Looker().scan(unit, null);
        names();
        depths();
        Check.end();
    }

    private static long line(long position) {
        return unit.getLineMap().getLineNumber(position);
    }

    private static final class Looker extends TreePathScanner<Void, Void> {
        private int classes = 0;
        private Element method = null;

        @Override
        public Void scan(Tree tree, Void v) {
            if (tree != null && RULED_OUT.contains(tree.getKind())) {
                refuse(tree, "a tree of kind " + tree.getKind());
            }
            return super.scan(tree, v);
        }

        private void refuse(Tree tree, String why) {
            Check.that(why + " in line " + line(trees.getSourcePositions().getStartPosition(unit, tree)), false);
        }

        private String type(Tree tree) {
            return String.valueOf(trees.getTypeMirror(new com.sun.source.util.TreePath(getCurrentPath(), tree)));
        }

        @Override
        public Void visitClass(ClassTree c, Void v) {
            classes++;
            Check.that("at most twelve classes", classes <= 12);
            boolean outer = classes == 1;
            Set<Modifier> flags = c.getModifiers().getFlags();
            Check.that("modifiers of " + c.getSimpleName(), outer ? flags.equals(Set.of(Modifier.PUBLIC, Modifier.FINAL)) : flags.contains(Modifier.STATIC) && flags.contains(Modifier.PRIVATE));
            int fields = 0;
            for (Tree member : c.getMembers()) {
                if (member instanceof VariableTree f) {
                    fields += f.getModifiers().getFlags().contains(Modifier.STATIC) ? 0 : 1;
                    if (outer) {
                        Check.that("field " + f.getName(), f.getModifiers().getFlags().contains(Modifier.PRIVATE) || f.getModifiers().getFlags().contains(Modifier.PUBLIC));
                    }
                    field(f);
                }
                if (member instanceof BlockTree) {
                    refuse(member, "an initialiser block");
                }
            }
            Check.that(c.getSimpleName() + " has " + fields + " fields", fields <= 20);
            return super.visitClass(c, v);
        }

        private void field(VariableTree f) {
            if (!f.getModifiers().getFlags().contains(Modifier.STATIC)) {
                return;
            }
            String type = type(f);
            Check.that("static " + f.getName() + " of " + type, f.getModifiers().getFlags().contains(Modifier.FINAL) && STATIC_TYPES.contains(type));
            if (type.endsWith("[]")) {
                Check.that("static " + f.getName() + " is written out", f.getInitializer() instanceof NewArrayTree a && a.getInitializers() != null);
            }
        }

        @Override
        public Void visitMethod(MethodTree m, Void v) {
            Element before = method;
            method = trees.getElement(getCurrentPath());
            METHODS.add(method);
            CALLS.putIfAbsent(method, new LinkedHashSet<>());
            Set<Modifier> flags = m.getModifiers().getFlags();
            boolean outer = method.getEnclosingElement().getSimpleName().contentEquals("SealedTokens");
            if (flags.contains(Modifier.PUBLIC)) {
                Check.that("a public one of another class: " + m.getName(), outer);
                PUBLIC.add(m.getName().toString());
            } else if (outer) {
                Check.that(m.getName() + " is private", flags.contains(Modifier.PRIVATE));
            }
            Check.that(m.getName() + " takes at most seven", m.getParameters().size() <= 7);
            long start = trees.getSourcePositions().getStartPosition(unit, m);
            if (start >= 0) {
                long lines = line(trees.getSourcePositions().getEndPosition(unit, m)) - line(start) + 1;
                Check.that(m.getName() + " has " + lines + " lines", lines <= 60);
            }
            super.visitMethod(m, v);
            method = before;
            return null;
        }

        private void call(Tree tree, Element called) {
            String owner = called.getEnclosingElement().toString();
            if (owner.startsWith("SealedTokens")) {
                if (method != null) {
                    CALLS.get(method).add(called);
                }
            } else if (!LIBRARY.contains(owner + "." + called.getSimpleName())) {
                refuse(tree, "a call of " + owner + "." + called.getSimpleName());
            }
        }

        @Override
        public Void visitMethodInvocation(MethodInvocationTree i, Void v) {
            call(i, trees.getElement(getCurrentPath()));
            return super.visitMethodInvocation(i, v);
        }

        @Override
        public Void visitNewClass(NewClassTree n, Void v) {
            call(n, trees.getElement(getCurrentPath()));
            if (n.getClassBody() != null) {
                refuse(n, "an anonymous class");
            }
            return super.visitNewClass(n, v);
        }

        @Override
        public Void visitBinary(BinaryTree b, Void v) {
            boolean texts = type(b.getLeftOperand()).equals("java.lang.String") || type(b.getRightOperand()).equals("java.lang.String");
            if (texts) {
                refuse(b, "texts joined or compared by a sign");
            }
            if ((b.getKind() == Tree.Kind.DIVIDE || b.getKind() == Tree.Kind.REMAINDER) && !isSafeDivisor(b.getRightOperand())) {
                refuse(b, "a divisor that is not seen to be other than 0");
            }
            return super.visitBinary(b, v);
        }

        private boolean isSafeDivisor(Tree d) {
            if (d instanceof LiteralTree l) {
                return !Integer.valueOf(0).equals(l.getValue());
            }
            String text = d.toString();
            return text.startsWith("Math.max(") || text.equals("Cipher.BLOCK") || text.equals("HASH") || text.equals("piece");
        }

        @Override
        public Void visitCompoundAssignment(CompoundAssignmentTree a, Void v) {
            if (type(a.getVariable()).equals("java.lang.String") || a.getKind() == Tree.Kind.DIVIDE_ASSIGNMENT || a.getKind() == Tree.Kind.REMAINDER_ASSIGNMENT) {
                refuse(a, "an assignment with a sign");
            }
            return super.visitCompoundAssignment(a, v);
        }

        @Override
        public Void visitLiteral(LiteralTree l, Void v) {
            if (l.getValue() instanceof String s && s.chars().anyMatch(c -> c > 255)) {
                refuse(l, "a character above 255");
            }
            return null;
        }

        @Override
        public Void visitForLoop(ForLoopTree f, Void v) {
            Check.that("a loop without an end", f.getCondition() != null && !f.getUpdate().isEmpty());
            return super.visitForLoop(f, v);
        }

        @Override
        public Void visitIdentifier(IdentifierTree i, Void v) {
            Check.that("a type of the library in line " + line(trees.getSourcePositions().getStartPosition(unit, i)),
                !Set.of("Object", "Integer", "Long", "Arrays", "StringBuilder", "double", "float").contains(i.getName().toString()));
            return null;
        }
    }

    private static void names() {
        Check.same("public methods", PUBLIC.size(), 34);
        for (Element m : METHODS) {
            if (!m.getModifiers().contains(Modifier.PUBLIC)) {
                Check.that(m.getEnclosingElement() + "." + m + " bears the name of a public one", m.getSimpleName().contentEquals("<init>") || !PUBLIC.contains(m.getSimpleName().toString()));
            }
        }
    }

    private static void depths() {
        int deepest = 0;
        for (Element m : METHODS) {
            if (m.getModifiers().contains(Modifier.PUBLIC)) {
                deepest = Math.max(deepest, depth((ExecutableElement) m, new LinkedHashSet<>()));
            }
        }
        System.out.println("calls go " + deepest + " deep");
    }

    private static int depth(Element m, Set<Element> open) {
        if (!open.add(m)) {
            Check.that("recursion by " + m, false);
            return 0;
        }
        Check.that("calls go deeper than eight: " + open, open.size() <= 8);
        int deepest = 0;
        for (Element called : CALLS.getOrDefault(m, Set.of())) {
            deepest = Math.max(deepest, depth(called, open));
        }
        open.remove(m);
        return deepest + 1;
    }
}
