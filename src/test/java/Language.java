import com.sun.source.tree.AssertTree;
import com.sun.source.tree.BinaryTree;
import com.sun.source.tree.BlockTree;
import com.sun.source.tree.ClassTree;
import com.sun.source.tree.CompilationUnitTree;
import com.sun.source.tree.CompoundAssignmentTree;
import com.sun.source.tree.DoWhileLoopTree;
import com.sun.source.tree.ExpressionTree;
import com.sun.source.tree.ForLoopTree;
import com.sun.source.tree.IdentifierTree;
import com.sun.source.tree.LambdaExpressionTree;
import com.sun.source.tree.LiteralTree;
import com.sun.source.tree.MemberReferenceTree;
import com.sun.source.tree.MemberSelectTree;
import com.sun.source.tree.MethodInvocationTree;
import com.sun.source.tree.MethodTree;
import com.sun.source.tree.NewArrayTree;
import com.sun.source.tree.NewClassTree;
import com.sun.source.tree.SynchronizedTree;
import com.sun.source.tree.ThrowTree;
import com.sun.source.tree.Tree;
import com.sun.source.tree.TryTree;
import com.sun.source.tree.TypeCastTree;
import com.sun.source.tree.VariableTree;
import com.sun.source.tree.WhileLoopTree;
import com.sun.source.util.JavacTask;
import com.sun.source.util.SourcePositions;
import com.sun.source.util.TreePath;
import com.sun.source.util.TreePathScanner;
import com.sun.source.util.Trees;
import java.io.IOException;
import java.net.URI;
import java.util.HashSet;
import java.util.LinkedHashMap;
import java.util.LinkedHashSet;
import java.util.List;
import java.util.Map;
import java.util.Set;
import java.util.TreeSet;
import java.util.regex.Pattern;
import javax.lang.model.element.Element;
import javax.lang.model.element.ElementKind;
import javax.lang.model.element.ExecutableElement;
import javax.lang.model.element.Modifier;
import javax.lang.model.element.TypeElement;
import javax.lang.model.type.ArrayType;
import javax.lang.model.type.TypeKind;
import javax.lang.model.type.TypeMirror;
import javax.tools.Diagnostic;
import javax.tools.DiagnosticCollector;
import javax.tools.JavaCompiler;
import javax.tools.JavaFileObject;
import javax.tools.SimpleJavaFileObject;
import javax.tools.ToolProvider;

/**
 * Holds a source text of RingPost against the rules of ../shared/LANGUAGE.md, by the tree that javac makes of it.
 *
 * <p>Where a rule leaves something that only a reader can tell to be safe (casts, divisors that change, double and
 * float, while loops, recursion), it is complained of: the program has no need of it.
 */
final class Language extends TreePathScanner<Void, Void> {
    private static final int MOST_PARAMETERS = 7;
    private static final int MOST_LINES = 60;
    private static final int MOST_DEPTH = 8;
    private static final int MOST_CLASSES = 12;
    private static final int MOST_FIELDS = 20;

    /** Rule 4, but for Integer, Long and Math, whose functions are many. */
    private static final Map<String, Set<String>> LIBRARY = Map.of(
        "java.lang.String",
        Set.of("length", "charAt", "isEmpty", "equals", "indexOf", "substring", "toCharArray"),
        "java.lang.StringBuilder",
        Set.of("append", "charAt", "setCharAt", "setLength", "deleteCharAt", "reverse", "length", "toString"),
        "java.util.ArrayList", Set.of("add", "get", "set", "remove", "size", "isEmpty", "clear"),
        "java.util.List", Set.of("add", "get", "set", "remove", "size", "isEmpty", "clear", "of"),
        "java.lang.System", Set.of("arraycopy"),
        "java.util.Arrays", Set.of("copyOf", "copyOfRange", "fill"));
    private static final Set<String> NUMBERS = Set.of("java.lang.Integer", "java.lang.Long", "java.lang.Math");
    private static final Set<String> DIVIDING =
        Set.of("floorDiv", "floorMod", "ceilDiv", "divideUnsigned", "remainderUnsigned");
    /** The library's calls that make something. */
    private static final Set<String> MAKING =
        Set.of("copyOf", "copyOfRange", "clone", "toCharArray", "substring", "of");
    private static final Set<String> TYPES = Set.of("java.lang.String", "java.lang.StringBuilder", "java.lang.Integer",
        "java.util.ArrayList", "java.util.List", "java.util.Iterator", "java.lang.Iterable", "java.lang.Comparable");
    private static final Set<TypeKind> PRIMITIVES = Set.of(TypeKind.INT, TypeKind.LONG, TypeKind.SHORT, TypeKind.BYTE,
        TypeKind.CHAR, TypeKind.BOOLEAN);
    private static final Set<TypeKind> ARRAYS_OF_CONSTANTS =
        Set.of(TypeKind.INT, TypeKind.LONG, TypeKind.CHAR, TypeKind.BYTE);
    private static final Set<Modifier> OF_A_CONSTANT = Set.of(Modifier.PUBLIC, Modifier.STATIC, Modifier.FINAL);
    private static final Set<Tree.Kind> DIVISIONS = Set.of(Tree.Kind.DIVIDE, Tree.Kind.REMAINDER,
        Tree.Kind.DIVIDE_ASSIGNMENT, Tree.Kind.REMAINDER_ASSIGNMENT);

    private final Trees trees;
    private final SourcePositions positions;
    private final CompilationUnitTree unit;
    private final Set<String> complaints = new LinkedHashSet<>();
    /** What each method of the file calls, by their names with the class ahead; the library's calls are in it, too. */
    private final Map<String, Set<String>> calls = new LinkedHashMap<>();
    private final Set<String> makers = new HashSet<>();
    private final Set<String> faceMethods = new TreeSet<>();
    private int classes;

    private Language(JavacTask task, CompilationUnitTree unit) {
        trees = Trees.instance(task);
        positions = trees.getSourcePositions();
        this.unit = unit;
    }

    /** A source file that is nowhere but here. */
    private static final class Text extends SimpleJavaFileObject {
        private final String source;

        Text(String source) {
            super(URI.create("text:///RingPost.java"), JavaFileObject.Kind.SOURCE);
            this.source = source;
        }

        @Override
        public CharSequence getCharContent(boolean ignoreEncodingErrors) {
            return source;
        }
    }

    static Language of(String source) throws IOException {
        JavaCompiler compiler = ToolProvider.getSystemJavaCompiler();
        List<JavaFileObject> files = List.of(new Text(source));
        DiagnosticCollector<JavaFileObject> heard = new DiagnosticCollector<>();
        JavacTask task = (JavacTask) compiler.getTask(null, null, heard, List.of("-proc:none"), null, files);
        CompilationUnitTree unit = task.parse().iterator().next();
        task.analyze();
        if (heard.getDiagnostics().stream().anyMatch(each -> each.getKind() == Diagnostic.Kind.ERROR)) {
            throw new IllegalArgumentException(heard.getDiagnostics() + " in " + source);
        }
        Language language = new Language(task, unit);
        language.scan(unit, null);
        language.lookAtCalls();
        return language;
    }

    /** What the rules have against the text: a line for each, with the rule's number ahead. */
    Set<String> complaints() {
        return complaints;
    }

    /** The public methods by which something is made, be it by what they call. */
    Set<String> makingMethods() {
        Set<String> making = new TreeSet<>();
        for (String method : faceMethods) {
            if (makesSomething(method, new HashSet<>())) {
                making.add(method);
            }
        }
        return making;
    }

    private boolean makesSomething(String method, Set<String> seen) {
        if (makers.contains(method) || !seen.add(method)) {
            return makers.contains(method);
        }
        for (String called : calls.getOrDefault(method, Set.of())) {
            if (makesSomething(called, seen)) {
                return true;
            }
        }
        return false;
    }

    private void against(int rule, Tree tree, String what) {
        long start = tree == null ? -1 : positions.getStartPosition(unit, tree);
        String line = start < 0 ? "" : "line " + unit.getLineMap().getLineNumber(start) + ": ";
        complaints.add("rule " + rule + ": " + line + what);
    }

    private Element elementOf(Tree tree) {
        return trees.getElement(new TreePath(getCurrentPath(), tree));
    }

    private TypeMirror typeOf(Tree tree) {
        return trees.getTypeMirror(new TreePath(getCurrentPath(), tree));
    }

    private static TypeElement classOf(Element element) {
        Element at = element;
        while (at != null && !(at instanceof TypeElement)) {
            at = at.getEnclosingElement();
        }
        return (TypeElement) at;
    }

    private static boolean isOwn(String className) {
        return className.equals("RingPost") || className.startsWith("RingPost.");
    }

    private static String nameOf(Element method) {
        return classOf(method).getQualifiedName() + "." + method.getSimpleName();
    }

    /** The method or constructor around the place that is looked at; null in a field. */
    private MethodTree methodAround() {
        for (TreePath at = getCurrentPath(); at != null; at = at.getParentPath()) {
            if (at.getLeaf() instanceof MethodTree method) {
                return method;
            }
        }
        return null;
    }

    private String callerName() {
        MethodTree method = methodAround();
        Element caller = method == null ? null : trees.getElement(trees.getPath(unit, method));
        return caller == null ? "" : nameOf(caller);
    }

    // ---- rules 1, 2, 5 and 11: classes, fields and methods

    @Override
    public Void visitCompilationUnit(CompilationUnitTree tree, Void nothing) {
        if (tree.getPackage() != null) {
            against(1, tree.getPackage(), "a package");
        }
        for (Tree each : tree.getTypeDecls()) {
            if (!(each instanceof ClassTree top) || !top.getSimpleName().contentEquals("RingPost")) {
                against(1, each, "a class beside RingPost");
            }
        }
        super.visitCompilationUnit(tree, nothing);
        if (classes > MOST_CLASSES) {
            against(11, null, classes + " classes");
        }
        return null;
    }

    @Override
    public Void visitClass(ClassTree tree, Void nothing) {
        classes++;
        Set<Modifier> modifiers = tree.getModifiers().getFlags();
        Tree parent = getCurrentPath().getParentPath().getLeaf();
        if (parent instanceof CompilationUnitTree) {
            if (!modifiers.equals(Set.of(Modifier.PUBLIC, Modifier.FINAL))) {
                against(1, tree, "the class isn't public and final");
            }
            lookAtMembers(tree);
        } else if (!(parent instanceof ClassTree)) {
            against(2, tree, "a local or anonymous class");
        } else {
            if (modifiers.contains(Modifier.PUBLIC) || modifiers.contains(Modifier.PROTECTED)) {
                against(1, tree, "a class inside that others see");
            }
            if (tree.getKind() == Tree.Kind.CLASS && !modifiers.contains(Modifier.STATIC)) {
                against(2, tree, "a class inside that isn't static");
            }
        }
        lookAtFields(tree);
        return super.visitClass(tree, nothing);
    }

    private void lookAtMembers(ClassTree tree) {
        Set<String> hidden = new HashSet<>();
        for (Tree each : tree.getMembers()) {
            if (each instanceof MethodTree method && method.getReturnType() != null) {
                Set<Modifier> modifiers = method.getModifiers().getFlags();
                if (modifiers.contains(Modifier.PRIVATE)) {
                    hidden.add(method.getName().toString());
                } else if (modifiers.equals(Set.of(Modifier.PUBLIC))) {
                    faceMethods.add("RingPost." + method.getName());
                } else {
                    against(1, method, method.getName() + " is neither private nor of the face");
                }
            } else if (each instanceof VariableTree field) {
                Set<Modifier> modifiers = field.getModifiers().getFlags();
                if (!modifiers.contains(Modifier.PRIVATE) && !modifiers.equals(OF_A_CONSTANT)) {
                    against(1, field, field.getName() + " is neither private nor of the face");
                }
            }
        }
        for (String name : hidden) {
            if (faceMethods.contains("RingPost." + name)) {
                against(1, tree, "a private method has the public name " + name);
            }
        }
    }

    private void lookAtFields(ClassTree tree) {
        int fields = 0;
        for (Tree each : tree.getMembers()) {
            if (each instanceof VariableTree field) {
                if (field.getModifiers().getFlags().contains(Modifier.STATIC)) {
                    lookAtConstant(field);
                } else {
                    fields++;
                }
            } else if (each instanceof BlockTree block && block.isStatic()) {
                against(5, block, "a static block");
            }
        }
        if (fields > MOST_FIELDS) {
            against(11, tree, fields + " fields");
        }
    }

    private void lookAtConstant(VariableTree field) {
        if (!field.getModifiers().getFlags().contains(Modifier.FINAL)) {
            against(5, field, "a static field that isn't final");
        }
        TypeMirror type = typeOf(field);
        boolean isPlain = type.getKind() == TypeKind.INT || type.getKind() == TypeKind.LONG
            || type.getKind() == TypeKind.BOOLEAN || type.getKind() == TypeKind.CHAR
            || type.toString().equals("java.lang.String");
        boolean isWrittenOut = type instanceof ArrayType row
            && ARRAYS_OF_CONSTANTS.contains(row.getComponentType().getKind())
            && field.getInitializer() instanceof NewArrayTree all && all.getInitializers() != null;
        if (!isPlain && !isWrittenOut) {
            against(5, field, "a static field of type " + type);
        }
    }

    @Override
    public Void visitMethod(MethodTree tree, Void nothing) {
        if (tree.getParameters().size() > MOST_PARAMETERS) {
            against(11, tree, tree.getName() + " takes " + tree.getParameters().size());
        }
        long first = unit.getLineMap().getLineNumber(positions.getStartPosition(unit, tree));
        long last = unit.getLineMap().getLineNumber(Math.max(0, positions.getEndPosition(unit, tree)));
        if (last - first + 1 > MOST_LINES) {
            against(11, tree, tree.getName() + " has " + (last - first + 1) + " lines");
        }
        if (!tree.getThrows().isEmpty()) {
            against(6, tree, "throws");
        }
        if (tree.getReturnType() != null) {
            lookAtType(tree, typeOf(tree.getReturnType()));
        }
        return super.visitMethod(tree, nothing);
    }

    // ---- rule 3: types

    @Override
    public Void visitVariable(VariableTree tree, Void nothing) {
        lookAtType(tree, typeOf(tree));
        return super.visitVariable(tree, nothing);
    }

    private void lookAtType(Tree tree, TypeMirror type) {
        TypeMirror part = type;
        int dimensions = 0;
        while (part instanceof ArrayType row) {
            part = row.getComponentType();
            dimensions++;
        }
        boolean isNumber = PRIMITIVES.contains(part.getKind());
        String name = part.toString().replaceAll("<.*", "");
        boolean isLeft = isNumber || part.getKind() == TypeKind.VOID || part.getKind() == TypeKind.TYPEVAR
            || isOwn(name) || (TYPES.contains(name) && dimensions == 0);
        if (!isLeft || dimensions > 2 || (dimensions == 2 && !isNumber)) {
            against(3, tree, "type " + type);
        }
    }

    // ---- rule 4: the library

    @Override
    public Void visitMethodInvocation(MethodInvocationTree tree, Void nothing) {
        ExpressionTree select = tree.getMethodSelect();
        boolean isImplied = select instanceof IdentifierTree name && name.getName().contentEquals("super");
        if (elementOf(select) instanceof ExecutableElement method && !isImplied) {
            String owner = classOf(method).getQualifiedName().toString();
            String name = method.getSimpleName().toString();
            addCall(nameOf(method));
            if (!isOwn(owner) && !isInLibrary(tree, owner, name)) {
                against(4, tree, owner + "." + name);
            }
            if (!isOwn(owner) && MAKING.contains(name)) {
                makers.add(callerName());
            }
            if (DIVIDING.contains(name) && !isConstantNumber(tree.getArguments().get(1))) {
                against(7, tree, "a divisor that changes");
            }
            if (!method.getModifiers().contains(Modifier.STATIC)) {
                lookAtConstructor(tree, "calls " + name);
            }
        }
        return super.visitMethodInvocation(tree, nothing);
    }

    private void addCall(String called) {
        calls.computeIfAbsent(callerName(), caller -> new LinkedHashSet<>()).add(called);
    }

    private boolean isInLibrary(MethodInvocationTree tree, String owner, String name) {
        if (NUMBERS.contains(owner)) {
            boolean areWhole = true;
            for (ExpressionTree argument : tree.getArguments()) {
                areWhole &= PRIMITIVES.contains(typeOf(argument).getKind());
            }
            return areWhole && !name.endsWith("Exact") && !name.equals("random");
        }
        boolean isArrayClone = name.equals("clone") && tree.getMethodSelect() instanceof MemberSelectTree of
            && typeOf(of.getExpression()) instanceof ArrayType;
        return isArrayClone || LIBRARY.getOrDefault(owner, Set.of()).contains(name);
    }

    @Override
    public Void visitMemberSelect(MemberSelectTree tree, Void nothing) {
        Element element = trees.getElement(getCurrentPath());
        boolean isField = element != null && element.getKind() == ElementKind.FIELD && classOf(element) != null;
        boolean isLength = tree.getIdentifier().contentEquals("length");
        if (isField && !isLength && !isOwn(classOf(element).getQualifiedName().toString())) {
            against(4, tree, "the library's field " + tree);
        }
        return super.visitMemberSelect(tree, nothing);
    }

    @Override
    public Void visitNewClass(NewClassTree tree, Void nothing) {
        makers.add(callerName());
        Element made = trees.getElement(getCurrentPath());
        if (made != null && isOwn(classOf(made).getQualifiedName().toString())) {
            addCall(nameOf(made));
        } else if (!Set.of("String", "StringBuilder", "ArrayList").contains(
            tree.getIdentifier().toString().replaceAll("<.*", ""))) {
            against(4, tree, "new " + tree.getIdentifier());
        }
        return super.visitNewClass(tree, nothing);
    }

    @Override
    public Void visitNewArray(NewArrayTree tree, Void nothing) {
        makers.add(callerName());
        return super.visitNewArray(tree, nothing);
    }

    // ---- rules 2, 6, 7, 9 and 10: statements and expressions

    @Override
    public Void visitLambdaExpression(LambdaExpressionTree tree, Void nothing) {
        against(2, tree, "a lambda");
        return super.visitLambdaExpression(tree, nothing);
    }

    @Override
    public Void visitMemberReference(MemberReferenceTree tree, Void nothing) {
        against(2, tree, "a method reference");
        return super.visitMemberReference(tree, nothing);
    }

    @Override
    public Void visitThrow(ThrowTree tree, Void nothing) {
        against(6, tree, "throw");
        return super.visitThrow(tree, nothing);
    }

    @Override
    public Void visitTry(TryTree tree, Void nothing) {
        against(6, tree, "try");
        return super.visitTry(tree, nothing);
    }

    @Override
    public Void visitSynchronized(SynchronizedTree tree, Void nothing) {
        against(6, tree, "synchronized");
        return super.visitSynchronized(tree, nothing);
    }

    @Override
    public Void visitAssert(AssertTree tree, Void nothing) {
        against(6, tree, "assert");
        return super.visitAssert(tree, nothing);
    }

    @Override
    public Void visitTypeCast(TypeCastTree tree, Void nothing) {
        if (!PRIMITIVES.contains(typeOf(tree.getType()).getKind())) {
            against(6, tree, "a cast, of which nobody has said that it is safe");
        }
        return super.visitTypeCast(tree, nothing);
    }

    @Override
    public Void visitBinary(BinaryTree tree, Void nothing) {
        String left = String.valueOf(typeOf(tree.getLeftOperand()));
        String right = String.valueOf(typeOf(tree.getRightOperand()));
        boolean isComparing = tree.getKind() == Tree.Kind.EQUAL_TO || tree.getKind() == Tree.Kind.NOT_EQUAL_TO;
        if (isComparing && left.equals(right) && Set.of("java.lang.String", "java.lang.Integer").contains(left)) {
            against(6, tree, "two of " + left + " compared by ==");
        }
        if (tree.getKind() == Tree.Kind.PLUS && (left + right).contains("java.lang.String")) {
            against(10, tree, "texts joined by +");
        }
        lookAtDivisor(tree, tree.getRightOperand());
        return super.visitBinary(tree, nothing);
    }

    @Override
    public Void visitCompoundAssignment(CompoundAssignmentTree tree, Void nothing) {
        if (String.valueOf(typeOf(tree.getVariable())).equals("java.lang.String")) {
            against(10, tree, "texts joined by +=");
        }
        lookAtDivisor(tree, tree.getExpression());
        return super.visitCompoundAssignment(tree, nothing);
    }

    private void lookAtDivisor(Tree tree, ExpressionTree divisor) {
        if (DIVISIONS.contains(tree.getKind()) && !isConstantNumber(divisor)) {
            against(7, tree, "a divisor that changes");
        }
    }

    private static boolean isConstantNumber(ExpressionTree tree) {
        return tree instanceof LiteralTree literal && literal.getValue() instanceof Number number
            && number.longValue() != 0;
    }

    @Override
    public Void visitWhileLoop(WhileLoopTree tree, Void nothing) {
        against(9, tree, "while");
        return super.visitWhileLoop(tree, nothing);
    }

    @Override
    public Void visitDoWhileLoop(DoWhileLoopTree tree, Void nothing) {
        against(9, tree, "do");
        return super.visitDoWhileLoop(tree, nothing);
    }

    @Override
    public Void visitForLoop(ForLoopTree tree, Void nothing) {
        boolean counts = tree.getInitializer().size() == 1 && tree.getUpdate().size() == 1
            && tree.getInitializer().get(0) instanceof VariableTree counter && tree.getCondition() != null
            && tree.getCondition().toString().matches("(.* )?" + counter.getName() + " <=? .*")
            && tree.getUpdate().get(0).getExpression().toString().equals(counter.getName() + "++")
            && !isChanged(counter.getName().toString(), tree.getStatement().toString());
        if (!counts) {
            against(9, tree, "a loop that doesn't count up to a bound");
        }
        return super.visitForLoop(tree, nothing);
    }

    private static boolean isChanged(String counter, String body) {
        String name = "\\b" + counter + "\\b";
        String changes = name + " *([-+*/%&|^]|<<|>>>?)?=[^=]|" + name + "(\\+\\+|--)|(\\+\\+|--)" + name;
        return Pattern.compile(changes).matcher(body).find();
    }

    // ---- rules 8, 11 and 12: what calls what

    /** Rule 12: a constructor calls nothing that could be overridden and hands out nothing of its object. */
    private void lookAtConstructor(Tree tree, String what) {
        MethodTree around = methodAround();
        if (around != null && around.getReturnType() == null) {
            against(12, tree, "a constructor " + what);
        }
    }

    @Override
    public Void visitIdentifier(IdentifierTree tree, Void nothing) {
        Tree parent = getCurrentPath().getParentPath().getLeaf();
        if (tree.getName().contentEquals("this") && !(parent instanceof MemberSelectTree)) {
            lookAtConstructor(tree, "hands out its object");
        }
        return super.visitIdentifier(tree, nothing);
    }

    private void lookAtCalls() {
        for (String method : List.copyOf(calls.keySet())) {
            int depth = depthOf(method, new LinkedHashSet<>());
            if (depth > MOST_DEPTH) {
                against(11, null, method + " goes " + depth + " deep");
            }
        }
    }

    /** How many calls stand open at most, the method's own and the library's with them. */
    private int depthOf(String method, Set<String> open) {
        if (!open.add(method)) {
            against(8, null, method + " calls itself");
            return 0;
        }
        int deepest = 0;
        for (String called : calls.getOrDefault(method, Set.of())) {
            deepest = Math.max(deepest, depthOf(called, open));
        }
        open.remove(method);
        return deepest + 1;
    }
}
