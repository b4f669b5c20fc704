import com.sun.source.tree.AssertTree;
import com.sun.source.tree.BinaryTree;
import com.sun.source.tree.BlockTree;
import com.sun.source.tree.ClassTree;
import com.sun.source.tree.CompilationUnitTree;
import com.sun.source.tree.CompoundAssignmentTree;
import com.sun.source.tree.DoWhileLoopTree;
import com.sun.source.tree.EnhancedForLoopTree;
import com.sun.source.tree.ExpressionTree;
import com.sun.source.tree.ForLoopTree;
import com.sun.source.tree.IdentifierTree;
import com.sun.source.tree.ImportTree;
import com.sun.source.tree.InstanceOfTree;
import com.sun.source.tree.LambdaExpressionTree;
import com.sun.source.tree.LiteralTree;
import com.sun.source.tree.MemberReferenceTree;
import com.sun.source.tree.MethodInvocationTree;
import com.sun.source.tree.MethodTree;
import com.sun.source.tree.NewArrayTree;
import com.sun.source.tree.NewClassTree;
import com.sun.source.tree.SynchronizedTree;
import com.sun.source.tree.ThrowTree;
import com.sun.source.tree.Tree;
import com.sun.source.tree.TryTree;
import com.sun.source.tree.TypeCastTree;
import com.sun.source.tree.VariableTree;
import com.sun.source.tree.WhileLoopTree;
import com.sun.source.util.JavacTask;
import com.sun.source.util.SourcePositions;
import com.sun.source.util.TreePath;
import com.sun.source.util.TreePathScanner;
import com.sun.source.util.Trees;
import java.io.IOException;
import java.nio.charset.StandardCharsets;
import java.nio.file.Files;
import java.nio.file.Path;
import java.util.ArrayList;
import java.util.HashSet;
import java.util.LinkedHashMap;
import java.util.LinkedHashSet;
import java.util.List;
import java.util.Map;
import java.util.Set;
import java.util.TreeSet;
import javax.lang.model.element.Element;
import javax.lang.model.element.ElementKind;
import javax.lang.model.element.ExecutableElement;
import javax.lang.model.element.Modifier;
import javax.lang.model.element.VariableElement;
import javax.lang.model.type.ArrayType;
import javax.lang.model.type.DeclaredType;
import javax.lang.model.type.TypeKind;
import javax.lang.model.type.TypeMirror;
import javax.tools.JavaCompiler;
import javax.tools.StandardJavaFileManager;
import javax.tools.ToolProvider;

/**
 * The face of the document and the rules of LANGUAGE.md, looked for in the source as the compiler
 * reads it. Where a rule allows more than the class uses, what it does not use is refused here too.
 */
public final class LanguageTest extends TreePathScanner<Void, Void> {
    private static final String SOURCE = "src/main/java/VeneerDesk.java";
    private static final String DOCUMENT = "../shared/DOC.md";
    private static final Set<String> LIBRARY = Set.of("java.util.Arrays.fill", "java.lang.System.arraycopy",
        "java.lang.Math.min", "java.lang.Math.max", "java.lang.Math.abs", "java.lang.Integer.bitCount");
    private static final Set<TypeKind> PLAIN = Set.of(TypeKind.INT, TypeKind.LONG, TypeKind.BOOLEAN, TypeKind.VOID);
    private static final int MOST_PARAMETERS = 7;
    private static final int MOST_LINES = 60;
    private static final int MOST_CLASSES = 12;
    private static final int MOST_FIELDS = 20;
    private static final int MOST_DEEP = 8;

    private final Set<String> wrong = new LinkedHashSet<>();
    private final Set<String> face = new TreeSet<>();
    private final Set<String> faceNames = new HashSet<>();
    private final List<ExecutableElement> methods = new ArrayList<>();
    private final Map<Element, Set<Element>> calls = new LinkedHashMap<>();
    private final Trees trees;
    private final CompilationUnitTree unit;
    private int classes;

    private LanguageTest(Trees trees, CompilationUnitTree unit) {
        this.trees = trees;
        this.unit = unit;
    }

    /** Another source than the project's own may be named. */
    public static void main(String[] args) throws IOException {
        Path source = Path.of(args.length == 0 ? SOURCE : args[0]);
        JavaCompiler compiler = ToolProvider.getSystemJavaCompiler();
        try (StandardJavaFileManager files = compiler.getStandardFileManager(null, null, StandardCharsets.UTF_8)) {
            JavacTask task = (JavacTask) compiler.getTask(null, files, null,
                List.of("-proc:none"), null, files.getJavaFileObjects(source));
            CompilationUnitTree unit = task.parse().iterator().next();
            task.analyze();
            LanguageTest t = new LanguageTest(Trees.instance(task), unit);
            t.look();
            t.finish();
        }
    }

    private void look() throws IOException {
        scan(unit, null);
        due("1: no package line", unit.getPackageName() == null);
        due("1: one class in the file", unit.getTypeDecls().size() == 1);
        sameFace(documentFace());
        due("11: at most " + MOST_CLASSES + " classes, but there are " + classes, classes <= MOST_CLASSES);
        namesOfTheFace();
        recursion();
        depth();
    }

    private void finish() {
        wrong.forEach(rule -> System.out.println("not kept: " + rule));
        System.out.println(wrong.isEmpty() ? "the language is kept to" : wrong.size() + " rules are not kept to");
        if (!wrong.isEmpty()) {
            System.exit(1);
        }
    }

    private void due(String rule, boolean kept) {
        if (!kept) {
            wrong.add(rule);
        }
    }

    private void dueHere(String rule, boolean kept) {
        long start = trees.getSourcePositions().getStartPosition(unit, getCurrentPath().getLeaf());
        due(rule + ", line " + unit.getLineMap().getLineNumber(start), kept);
    }

    private Element here() {
        return trees.getElement(getCurrentPath());
    }

    /** The lines of the first Java block of the document, but for its class's own two. */
    private static Set<String> documentFace() throws IOException {
        Set<String> lines = new TreeSet<>();
        String document = Files.readString(Path.of(DOCUMENT));
        int start = document.indexOf("```java\n") + 8;
        for (String line : document.substring(start, document.indexOf("```", start)).split("\n")) {
            if (line.startsWith("    ")) {
                lines.add(line.strip());
            }
        }
        return lines;
    }

    private void sameFace(Set<String> document) {
        for (String member : document) {
            due("1: of the document: " + member, face.contains(member));
        }
        for (String member : face) {
            due("1: not of the document: " + member, document.contains(member));
        }
        due("1: the document has a face", document.size() > 1);
    }

    @Override
    public Void visitImport(ImportTree tree, Void none) {
        dueHere("4: import " + tree.getQualifiedIdentifier(), tree.toString().strip().equals("import java.util.Arrays;"));
        return super.visitImport(tree, none);
    }

    @Override
    public Void visitClass(ClassTree tree, Void none) {
        classes++;
        Set<Modifier> modifiers = tree.getModifiers().getFlags();
        boolean inside = getCurrentPath().getParentPath().getLeaf() instanceof ClassTree;
        boolean outermost = getCurrentPath().getParentPath().getLeaf() instanceof CompilationUnitTree;
        dueHere("2: a class in no method", inside || outermost);
        dueHere("2: a plain class", tree.getKind() == Tree.Kind.CLASS);
        if (outermost) {
            dueHere("1: public and final", modifiers.equals(Set.of(Modifier.PUBLIC, Modifier.FINAL)));
        } else {
            dueHere("1, 2: private, static; 12: final", modifiers.equals(Set.of(Modifier.PRIVATE, Modifier.STATIC, Modifier.FINAL)));
        }
        dueHere("2: below no other class", tree.getExtendsClause() == null && tree.getImplementsClause().isEmpty());
        fieldsOf(tree);
        return super.visitClass(tree, none);
    }

    private void fieldsOf(ClassTree tree) {
        int fields = 0;
        for (Tree member : tree.getMembers()) {
            boolean fixed = member instanceof VariableTree field && field.getModifiers().getFlags().contains(Modifier.STATIC);
            fields += member instanceof VariableTree && !fixed ? 1 : 0;
            dueHere("5: no block outside of methods", !(member instanceof BlockTree));
        }
        dueHere("11: some " + MOST_FIELDS + " fields, but there are " + fields, fields <= MOST_FIELDS);
    }

    @Override
    public Void visitMethod(MethodTree tree, Void none) {
        ExecutableElement method = (ExecutableElement) here();
        // The compiler adds a constructor where the source has none: it has no place in it.
        if (trees.getSourcePositions().getEndPosition(unit, tree) < 0) {
            return null;
        }
        methods.add(method);
        boolean inDesk = method.getEnclosingElement().getSimpleName().contentEquals("VeneerDesk");
        if (inDesk && !method.getModifiers().contains(Modifier.PRIVATE)) {
            face.add(told(tree, method));
            faceNames.add(tree.getName().toString());
        }
        dueHere("11: at most " + MOST_PARAMETERS + " parameters", tree.getParameters().size() <= MOST_PARAMETERS);
        dueHere("11: at most " + MOST_LINES + " lines", linesOf(tree) <= MOST_LINES);
        dueHere("6: throws nothing", tree.getThrows().isEmpty());
        Set<Modifier> refused = Set.of(Modifier.SYNCHRONIZED, Modifier.NATIVE, Modifier.PROTECTED, Modifier.ABSTRACT);
        dueHere("1, 6: modifiers", tree.getModifiers().getFlags().stream().noneMatch(refused::contains));
        dueHere("2, 3: no types of its own", tree.getTypeParameters().isEmpty());
        type(method.getReturnType());
        return super.visitMethod(tree, none);
    }

    private String told(MethodTree tree, ExecutableElement method) {
        StringBuilder text = new StringBuilder();
        for (Modifier modifier : tree.getModifiers().getFlags()) {
            text.append(modifier).append(' ');
        }
        boolean made = method.getKind() == ElementKind.CONSTRUCTOR;
        text.append(made ? "VeneerDesk(" : tree.getReturnType() + " " + tree.getName() + "(");
        for (VariableTree parameter : tree.getParameters()) {
            text.append(text.toString().endsWith("(") ? "" : ", ");
            text.append(parameter.getType()).append(' ').append(parameter.getName());
        }
        return text.append(");").toString();
    }

    private long linesOf(Tree tree) {
        SourcePositions places = trees.getSourcePositions();
        long first = unit.getLineMap().getLineNumber(places.getStartPosition(unit, tree));
        return unit.getLineMap().getLineNumber(places.getEndPosition(unit, tree)) - first + 1;
    }

    @Override
    public Void visitVariable(VariableTree tree, Void none) {
        VariableElement variable = (VariableElement) here();
        type(variable.asType());
        Set<Modifier> modifiers = variable.getModifiers();
        if (modifiers.contains(Modifier.STATIC)) {
            dueHere("5: final: " + tree.getName(), modifiers.contains(Modifier.FINAL));
            dueHere("5: a constant: " + tree.getName(), variable.getConstantValue() != null);
        }
        dueHere("6: modifiers", !modifiers.contains(Modifier.VOLATILE) && !modifiers.contains(Modifier.TRANSIENT));
        Element owner = variable.getEnclosingElement();
        boolean ofDesk = variable.getKind() == ElementKind.FIELD && owner.getSimpleName().contentEquals("VeneerDesk");
        if (ofDesk && !modifiers.contains(Modifier.PRIVATE)) {
            face.add("public static final int " + tree.getName() + " = " + variable.getConstantValue() + ";");
            dueHere("1: a constant of the document", modifiers.equals(Set.of(Modifier.PUBLIC, Modifier.STATIC, Modifier.FINAL)));
        }
        return super.visitVariable(tree, none);
    }

    /** int, long, boolean, own classes, and arrays of these of one dimension. */
    private void type(TypeMirror type) {
        TypeMirror inner = type.getKind() == TypeKind.ARRAY ? ((ArrayType) type).getComponentType() : type;
        boolean own = inner instanceof DeclaredType declared && isOwn(declared.asElement());
        dueHere("3: type " + type, PLAIN.contains(inner.getKind()) || own);
    }

    private static boolean isOwn(Element element) {
        Element at = element;
        while (at != null) {
            if (at.getSimpleName().contentEquals("VeneerDesk")) {
                return true;
            }
            at = at.getEnclosingElement();
        }
        return false;
    }

    @Override
    public Void visitMethodInvocation(MethodInvocationTree tree, Void none) {
        Element called = trees.getElement(new TreePath(getCurrentPath(), tree.getMethodSelect()));
        boolean ofSuper = tree.getMethodSelect() instanceof IdentifierTree name && name.getName().contentEquals("super");
        if (isOwn(called)) {
            calls.computeIfAbsent(caller(), key -> new LinkedHashSet<>()).add(called);
        } else if (!ofSuper) {
            String name = called.getEnclosingElement() + "." + called.getSimpleName();
            dueHere("4, 13: " + name, LIBRARY.contains(name));
        }
        return super.visitMethodInvocation(tree, none);
    }

    private Element caller() {
        for (Tree tree : getCurrentPath()) {
            if (tree instanceof MethodTree) {
                return trees.getElement(trees.getPath(unit, tree));
            }
        }
        return null;
    }

    @Override
    public Void visitNewClass(NewClassTree tree, Void none) {
        dueHere("2: no class of its own", tree.getClassBody() == null);
        Element made = here();
        dueHere("3: new " + tree.getIdentifier(), isOwn(made));
        dueHere("12: no call makes an object", isMadeWithTheObject());
        Element caller = caller();
        if (caller != null) {
            calls.computeIfAbsent(caller, key -> new LinkedHashSet<>()).add(made);
        }
        dueHere("12: nothing of the object is handed out", tree.getArguments().isEmpty());
        return super.visitNewClass(tree, none);
    }

    @Override
    public Void visitNewArray(NewArrayTree tree, Void none) {
        dueHere("12: no call makes an array", isMadeWithTheObject());
        dueHere("3: of one dimension", tree.getDimensions().size() == 1);
        for (ExpressionTree length : tree.getDimensions()) {
            dueHere("7: a length that is a constant", isConstant(length));
        }
        return super.visitNewArray(tree, none);
    }

    private boolean isMadeWithTheObject() {
        Element caller = caller();
        return caller == null || caller.getKind() == ElementKind.CONSTRUCTOR;
    }

    private boolean isConstant(ExpressionTree tree) {
        if (tree instanceof BinaryTree binary) {
            return isConstant(binary.getLeftOperand()) && isConstant(binary.getRightOperand());
        }
        Element element = trees.getElement(trees.getPath(unit, tree));
        boolean named = element instanceof VariableElement variable && variable.getConstantValue() instanceof Integer n && n > 0;
        return named || tree instanceof LiteralTree;
    }

    @Override
    public Void visitLiteral(LiteralTree tree, Void none) {
        boolean number = tree.getValue() instanceof Integer || tree.getValue() instanceof Long;
        boolean other = tree.getValue() instanceof Boolean || tree.getValue() instanceof Character || tree.getValue() == null;
        dueHere("3, 10: " + tree, number || other);
        return super.visitLiteral(tree, none);
    }

    @Override
    public Void visitBinary(BinaryTree tree, Void none) {
        dueHere("7: no divisor", tree.getKind() != Tree.Kind.DIVIDE && tree.getKind() != Tree.Kind.REMAINDER);
        return super.visitBinary(tree, none);
    }

    @Override
    public Void visitCompoundAssignment(CompoundAssignmentTree tree, Void none) {
        boolean divides = tree.getKind() == Tree.Kind.DIVIDE_ASSIGNMENT || tree.getKind() == Tree.Kind.REMAINDER_ASSIGNMENT;
        dueHere("7: no divisor", !divides);
        return super.visitCompoundAssignment(tree, none);
    }

    @Override
    public Void visitTypeCast(TypeCastTree tree, Void none) {
        dueHere("6: casts of numbers alone", tree.getType().getKind() == Tree.Kind.PRIMITIVE_TYPE);
        return super.visitTypeCast(tree, none);
    }

    @Override
    public Void visitForLoop(ForLoopTree tree, Void none) {
        boolean counted = tree.getCondition() != null && !tree.getUpdate().isEmpty();
        dueHere("9: a counter against a bound", counted && hasBound(tree.getCondition()));
        return super.visitForLoop(tree, none);
    }

    @Override
    public Void visitWhileLoop(WhileLoopTree tree, Void none) {
        dueHere("9: a counter against a bound", hasBound(tree.getCondition()));
        return super.visitWhileLoop(tree, none);
    }

    /** A comparison that must hold for the loop to go on. */
    private static boolean hasBound(ExpressionTree condition) {
        String text = condition.toString();
        return text.contains("<") || text.contains(">");
    }

    @Override
    public Void visitDoWhileLoop(DoWhileLoopTree tree, Void none) {
        dueHere("9: no do", false);
        return super.visitDoWhileLoop(tree, none);
    }

    @Override
    public Void visitEnhancedForLoop(EnhancedForLoopTree tree, Void none) {
        dueHere("9, 12: no for over objects", false);
        return super.visitEnhancedForLoop(tree, none);
    }

    @Override
    public Void visitInstanceOf(InstanceOfTree tree, Void none) {
        dueHere("6: no instanceof", false);
        return super.visitInstanceOf(tree, none);
    }

    @Override
    public Void visitThrow(ThrowTree tree, Void none) {
        dueHere("6: no throw", false);
        return super.visitThrow(tree, none);
    }

    @Override
    public Void visitTry(TryTree tree, Void none) {
        dueHere("6: no try", false);
        return super.visitTry(tree, none);
    }

    @Override
    public Void visitAssert(AssertTree tree, Void none) {
        dueHere("6: no assert", false);
        return super.visitAssert(tree, none);
    }

    @Override
    public Void visitSynchronized(SynchronizedTree tree, Void none) {
        dueHere("6: no synchronized", false);
        return super.visitSynchronized(tree, none);
    }

    @Override
    public Void visitLambdaExpression(LambdaExpressionTree tree, Void none) {
        dueHere("2: no lambda", false);
        return super.visitLambdaExpression(tree, none);
    }

    @Override
    public Void visitMemberReference(MemberReferenceTree tree, Void none) {
        dueHere("2: no method reference", false);
        return super.visitMemberReference(tree, none);
    }

    private void namesOfTheFace() {
        Set<String> objects = Set.of("equals", "hashCode", "toString", "clone", "finalize");
        for (ExecutableElement method : methods) {
            String name = method.getSimpleName().toString();
            boolean made = method.getKind() == ElementKind.CONSTRUCTOR;
            boolean inDesk = method.getEnclosingElement().getSimpleName().contentEquals("VeneerDesk");
            boolean open = inDesk && !method.getModifiers().contains(Modifier.PRIVATE);
            due("1: no other method has a public one's name: " + method, made || open || !faceNames.contains(name));
            due("6: no " + name, !objects.contains(name));
        }
    }

    /** Methods that call themselves, also by others, are private and carry their depth. */
    private void recursion() {
        Set<String> depths = Set.of("open", "k");
        for (ExecutableElement method : methods) {
            if (reaches(method, method, new HashSet<>())) {
                due("8: private: " + method, method.getModifiers().contains(Modifier.PRIVATE));
                due("8: carries its depth: " + method, method.getParameters().stream()
                    .anyMatch(parameter -> depths.contains(parameter.getSimpleName().toString())));
            }
        }
    }

    private boolean reaches(Element from, Element to, Set<Element> seen) {
        for (Element next : calls.getOrDefault(from, Set.of())) {
            if (next.equals(to) || seen.add(next) && reaches(next, to, seen)) {
                return true;
            }
        }
        return false;
    }

    /** The longest chain of calls in which no method is met twice. */
    private void depth() {
        for (ExecutableElement method : methods) {
            List<Element> chain = new ArrayList<>();
            List<Element> longest = new ArrayList<>();
            follow(method, chain, longest);
            due("11: at most " + MOST_DEEP + " deep: " + longest, longest.size() <= MOST_DEEP);
        }
    }

    private void follow(Element method, List<Element> chain, List<Element> longest) {
        chain.add(method);
        if (chain.size() > longest.size()) {
            longest.clear();
            longest.addAll(chain);
        }
        for (Element next : calls.getOrDefault(method, Set.of())) {
            if (!chain.contains(next)) {
                follow(next, chain, longest);
            }
        }
        chain.remove(chain.size() - 1);
    }
}
