import com.sun.source.tree.ArrayAccessTree;
import com.sun.source.tree.BinaryTree;
import com.sun.source.tree.BlockTree;
import com.sun.source.tree.ClassTree;
import com.sun.source.tree.CompilationUnitTree;
import com.sun.source.tree.CompoundAssignmentTree;
import com.sun.source.tree.ExpressionTree;
import com.sun.source.tree.ForLoopTree;
import com.sun.source.tree.ImportTree;
import com.sun.source.tree.LiteralTree;
import com.sun.source.tree.MethodInvocationTree;
import com.sun.source.tree.MethodTree;
import com.sun.source.tree.NewArrayTree;
import com.sun.source.tree.NewClassTree;
import com.sun.source.tree.Tree;
import com.sun.source.tree.TypeCastTree;
import com.sun.source.tree.VariableTree;
import com.sun.source.tree.WhileLoopTree;
import com.sun.source.util.JavacTask;
import com.sun.source.util.TreePath;
import com.sun.source.util.TreePathScanner;
import com.sun.source.util.Trees;
import java.io.IOException;
import java.nio.file.Files;
import java.nio.file.Path;
import java.util.EnumSet;
import java.util.List;
import java.util.Map;
import java.util.Set;
import java.util.TreeMap;
import java.util.TreeSet;
import javax.lang.model.element.Element;
import javax.lang.model.element.Modifier;
import javax.lang.model.type.TypeKind;
import javax.lang.model.type.TypeMirror;
import javax.tools.JavaCompiler;
import javax.tools.StandardJavaFileManager;
import javax.tools.ToolProvider;

/**
 * The rules of ../shared/LANGUAGE.md, told by their numbers, held against the class's syntax as javac reads it. What
 * the rules allow and the class does without is held to be absent, too: who wants it widens the test.
 */
public final class LanguageTest {
    private static final Set<String> LIBRARY = Set.of("Math.min", "Math.max", "Math.abs", "Math.floorMod",
        "Math.floorDiv", "Integer.bitCount", "Long.bitCount", "Arrays.fill", "String.length", "String.charAt");
    private static final Set<String> TYPES = Set.of("int", "long", "boolean", "void", "int[]", "String");
    // These go no deeper than a limit of the document: four turns.
    private static final Set<String> RECURSIVE = Set.of("Broom.isWon");
    private static final Set<String> GUARDED = Set.of("SpellLayers.at", "SpellLayers.put");
    private static final Set<Tree.Kind> BANNED = EnumSet.of(Tree.Kind.THROW, Tree.Kind.TRY, Tree.Kind.SYNCHRONIZED,
        Tree.Kind.ASSERT, Tree.Kind.LAMBDA_EXPRESSION, Tree.Kind.MEMBER_REFERENCE, Tree.Kind.ANNOTATION,
        Tree.Kind.INTERFACE, Tree.Kind.ENUM, Tree.Kind.RECORD, Tree.Kind.INSTANCE_OF, Tree.Kind.SWITCH_EXPRESSION,
        Tree.Kind.ENHANCED_FOR_LOOP, Tree.Kind.DOUBLE_LITERAL, Tree.Kind.FLOAT_LITERAL);
    private static final int MOST_LINES = 60, MOST_NAMED = 7, MOST_DEEP = 8, MOST_CLASSES = 12, MOST_FIELDS = 20;

    private static final Check check = new Check("LanguageTest");

    public static void main(String[] args) throws IOException {
        Path file = Path.of(args.length > 0 ? args[0] : "src/main/java/SpellLayers.java");
        check.holds("3: signs 1 to 127 alone", Files.readString(file).chars().allMatch(c -> c >= 1 && c <= 127));
        JavaCompiler compiler = ToolProvider.getSystemJavaCompiler();
        try (StandardJavaFileManager files = compiler.getStandardFileManager(null, null, null)) {
            JavacTask task = (JavacTask) compiler.getTask(null, files, null, List.of("-proc:none"), null,
                files.getJavaFileObjects(file));
            CompilationUnitTree unit = task.parse().iterator().next();
            task.analyze();
            check.holds("1: no package line", unit.getPackage() == null);
            Reading reading = new Reading(Trees.instance(task), unit);
            reading.scan(unit, null);
            reading.end();
        }
        check.end();
    }

    private static final class Reading extends TreePathScanner<Void, Void> {
        private final Trees trees;
        private final CompilationUnitTree unit;
        private final Map<String, Set<String>> calls = new TreeMap<>();
        private final Set<String> publicNames = new TreeSet<>();
        private final Set<String> otherNames = new TreeSet<>();
        private int classes;
        private String inClass = "";
        private String inMethod = "";

        Reading(Trees trees, CompilationUnitTree unit) {
            this.trees = trees;
            this.unit = unit;
        }

        private void rule(String rule, Tree tree, boolean holds) {
            long start = trees.getSourcePositions().getStartPosition(unit, tree);
            check.holds("line " + unit.getLineMap().getLineNumber(start) + ", rule " + rule, holds);
        }

        private TypeMirror typeOf(Tree tree) {
            return trees.getTypeMirror(new TreePath(getCurrentPath(), tree));
        }

        @Override
        public Void scan(Tree tree, Void none) {
            if (tree != null && BANNED.contains(tree.getKind())) {
                rule("2, 3, 6: " + tree.getKind(), tree, false);
            }
            return super.scan(tree, none);
        }

        @Override
        public Void visitImport(ImportTree tree, Void none) {
            String name = tree.getQualifiedIdentifier().toString();
            rule("4: import " + name, tree, name.equals("java.util.Arrays"));
            return null;
        }

        @Override
        public Void visitClass(ClassTree tree, Void none) {
            classes++;
            Set<Modifier> flags = tree.getModifiers().getFlags();
            boolean outer = inClass.isEmpty();
            rule("2: named", tree, tree.getSimpleName().length() > 0);
            rule("1: the class is public and final", tree,
                !outer || flags.equals(Set.of(Modifier.PUBLIC, Modifier.FINAL)));
            rule("2: a class inside is static, not public", tree, outer || flags.contains(Modifier.STATIC)
                && !flags.contains(Modifier.PUBLIC) && !flags.contains(Modifier.PROTECTED));
            int fields = 0;
            for (Tree member : tree.getMembers()) {
                boolean isField = member instanceof VariableTree field
                    && !field.getModifiers().getFlags().contains(Modifier.STATIC);
                fields += isField ? 1 : 0;
                rule("5: no static block", member, !(member instanceof BlockTree));
            }
            rule("11: " + fields + " fields", tree, fields <= MOST_FIELDS);
            String around = inClass;
            inClass = tree.getSimpleName().toString();
            super.visitClass(tree, none);
            inClass = around;
            return null;
        }

        @Override
        public Void visitMethod(MethodTree tree, Void none) {
            inMethod = inClass + "." + tree.getName();
            calls.putIfAbsent(inMethod, new TreeSet<>());
            boolean isPublic = tree.getModifiers().getFlags().contains(Modifier.PUBLIC);
            if (!tree.getName().contentEquals("<init>")) {
                (isPublic ? publicNames : otherNames).add(tree.getName().toString());
            }
            rule("11: " + tree.getParameters().size() + " parameters", tree, tree.getParameters().size() <= MOST_NAMED);
            if (tree.getReturnType() != null) {
                type(tree.getReturnType());
            }
            long start = trees.getSourcePositions().getStartPosition(unit, tree);
            long end = trees.getSourcePositions().getEndPosition(unit, tree);
            if (end >= 0) {
                long lines = unit.getLineMap().getLineNumber(end) - unit.getLineMap().getLineNumber(start) + 1;
                rule("11: " + lines + " lines", tree, lines <= MOST_LINES);
            }
            rule("6: no equals, hashCode, toString", tree,
                !Set.of("equals", "hashCode", "toString").contains(tree.getName().toString()));
            rule("6: throws nothing", tree, tree.getThrows().isEmpty());
            super.visitMethod(tree, none);
            inMethod = "";
            return null;
        }

        private void type(Tree told) {
            TypeMirror type = typeOf(told);
            String name = type.toString().replace("java.lang.", "");
            rule("3: the type " + name, told, TYPES.contains(name) || name.matches("SpellLayers(\\.\\w+)?"));
        }

        @Override
        public Void visitVariable(VariableTree tree, Void none) {
            type(tree.getType());
            Set<Modifier> flags = tree.getModifiers().getFlags();
            if (flags.contains(Modifier.STATIC)) {
                rule("5: static fields are final", tree, flags.contains(Modifier.FINAL));
                rule("5: static fields are numbers", tree, tree.getType().toString().matches("int|long"));
            }
            rule("12: nothing is volatile or transient", tree,
                !flags.contains(Modifier.VOLATILE) && !flags.contains(Modifier.TRANSIENT));
            return super.visitVariable(tree, none);
        }

        @Override
        public Void visitMethodInvocation(MethodInvocationTree tree, Void none) {
            Element called = trees.getElement(new TreePath(getCurrentPath(), tree.getMethodSelect()));
            String name = called.getEnclosingElement().getSimpleName() + "." + called.getSimpleName();
            boolean own = called.getEnclosingElement().toString().startsWith("SpellLayers");
            boolean constructor = called.getSimpleName().contentEquals("<init>");
            rule("4: " + name, tree, own || constructor || LIBRARY.contains(name));
            if (own) {
                calls.computeIfAbsent(inMethod, method -> new TreeSet<>()).add(name);
            }
            return super.visitMethodInvocation(tree, none);
        }

        @Override
        public Void visitNewClass(NewClassTree tree, Void none) {
            rule("2: no anonymous class", tree, tree.getClassBody() == null);
            rule("12: an object is made by a constructor", tree, inMethod.endsWith("<init>"));
            return super.visitNewClass(tree, none);
        }

        @Override
        public Void visitNewArray(NewArrayTree tree, Void none) {
            rule("12: an array is made with the object that has it", tree, inMethod.isEmpty());
            for (ExpressionTree size : tree.getDimensions()) {
                rule("7: a length of constants", size, isOfConstants(size));
            }
            return super.visitNewArray(tree, none);
        }

        @Override
        public Void visitArrayAccess(ArrayAccessTree tree, Void none) {
            rule("7: an element, of which the index is looked at", tree, GUARDED.contains(inMethod));
            return super.visitArrayAccess(tree, none);
        }

        @Override
        public Void visitTypeCast(TypeCastTree tree, Void none) {
            rule("6: a cast of numbers alone", tree, typeOf(tree.getType()).getKind().isPrimitive());
            return super.visitTypeCast(tree, none);
        }

        @Override
        public Void visitBinary(BinaryTree tree, Void none) {
            boolean divides = tree.getKind() == Tree.Kind.DIVIDE || tree.getKind() == Tree.Kind.REMAINDER;
            rule("7: a divisor that is not 0", tree, !divides || isDivisor(tree.getRightOperand()));
            for (ExpressionTree side : List.of(tree.getLeftOperand(), tree.getRightOperand())) {
                TypeMirror type = typeOf(side);
                boolean isText = type.getKind() == TypeKind.DECLARED;
                rule("6, 10: + and == of numbers alone", tree, !isText);
            }
            return super.visitBinary(tree, none);
        }

        @Override
        public Void visitCompoundAssignment(CompoundAssignmentTree tree, Void none) {
            boolean divides = tree.getKind() == Tree.Kind.DIVIDE_ASSIGNMENT
                || tree.getKind() == Tree.Kind.REMAINDER_ASSIGNMENT;
            rule("7: a divisor that is not 0", tree, !divides || isDivisor(tree.getExpression()));
            rule("10: += of numbers alone", tree, typeOf(tree.getVariable()).getKind().isPrimitive());
            return super.visitCompoundAssignment(tree, none);
        }

        /** Constants that are not 0, and the counter d of odds(), which goes down to 2. */
        private boolean isDivisor(ExpressionTree by) {
            boolean counter = inMethod.equals("SpellLayers.odds") && by.toString().equals("d");
            return counter || isOfConstants(by) && !by.toString().equals("0");
        }

        private static boolean isOfConstants(ExpressionTree tree) {
            return tree instanceof LiteralTree || tree.toString().matches("(\\w+\\.)?[A-Z_]+( [*+] ([A-Z_]+|[0-9]+))?");
        }

        @Override
        public Void visitForLoop(ForLoopTree tree, Void none) {
            ExpressionTree until = tree.getCondition();
            rule("9: a loop with an end", tree, until != null && !(until instanceof LiteralTree));
            return super.visitForLoop(tree, none);
        }

        @Override
        public Void visitWhileLoop(WhileLoopTree tree, Void none) {
            // Each of these counts the place up to the text's length.
            rule("9: a loop with an end", tree, tree.getCondition().toString().startsWith("(place < length &&"));
            return super.visitWhileLoop(tree, none);
        }

        void end() {
            check.holds("rule 11: " + classes + " classes", classes <= MOST_CLASSES);
            otherNames.retainAll(publicNames);
            check.holds("rule 1: private, with a public name: " + otherNames, otherNames.isEmpty());
            for (String method : calls.keySet()) {
                int deep = depth(method, new TreeSet<>());
                check.holds("rule 11: " + method + " calls " + deep + " deep", deep <= MOST_DEEP);
            }
        }

        private int depth(String method, Set<String> open) {
            if (!open.add(method)) {
                check.holds("rule 8: " + method + " calls itself", RECURSIVE.contains(method));
                return 0;
            }
            int most = 0;
            for (String called : calls.getOrDefault(method, Set.of())) {
                most = Math.max(most, depth(called, open));
            }
            open.remove(method);
            return most + 1;
        }
    }
}
