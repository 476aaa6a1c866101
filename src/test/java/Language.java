import com.sun.source.tree.ArrayAccessTree;
import com.sun.source.tree.AssertTree;
import com.sun.source.tree.AssignmentTree;
import com.sun.source.tree.BinaryTree;
import com.sun.source.tree.BlockTree;
import com.sun.source.tree.ClassTree;
import com.sun.source.tree.CompilationUnitTree;
import com.sun.source.tree.CompoundAssignmentTree;
import com.sun.source.tree.DoWhileLoopTree;
import com.sun.source.tree.ExpressionTree;
import com.sun.source.tree.ForLoopTree;
import com.sun.source.tree.IdentifierTree;
import com.sun.source.tree.LambdaExpressionTree;
import com.sun.source.tree.LiteralTree;
import com.sun.source.tree.MemberReferenceTree;
import com.sun.source.tree.MemberSelectTree;
import com.sun.source.tree.MethodInvocationTree;
import com.sun.source.tree.MethodTree;
import com.sun.source.tree.NewArrayTree;
import com.sun.source.tree.NewClassTree;
import com.sun.source.tree.ParenthesizedTree;
import com.sun.source.tree.SynchronizedTree;
import com.sun.source.tree.ThrowTree;
import com.sun.source.tree.Tree;
import com.sun.source.tree.TryTree;
import com.sun.source.tree.TypeCastTree;
import com.sun.source.tree.UnaryTree;
import com.sun.source.tree.VariableTree;
import com.sun.source.tree.WhileLoopTree;
import com.sun.source.util.JavacTask;
import com.sun.source.util.TreePath;
import com.sun.source.util.TreePathScanner;
import com.sun.source.util.TreeScanner;
import com.sun.source.util.Trees;
import java.io.IOException;
import java.net.URI;
import java.nio.charset.StandardCharsets;
import java.nio.file.Files;
import java.nio.file.Path;
import java.util.ArrayList;
import java.util.HashSet;
import java.util.LinkedHashMap;
import java.util.List;
import java.util.Map;
import java.util.Set;
import java.util.TreeSet;
import java.util.regex.Matcher;
import java.util.regex.Pattern;
import javax.lang.model.element.Element;
import javax.lang.model.element.ElementKind;
import javax.lang.model.element.ExecutableElement;
import javax.lang.model.element.Modifier;
import javax.lang.model.element.NestingKind;
import javax.lang.model.element.TypeElement;
import javax.lang.model.element.VariableElement;
import javax.lang.model.type.ArrayType;
import javax.lang.model.type.DeclaredType;
import javax.lang.model.type.TypeKind;
import javax.lang.model.type.TypeMirror;
import javax.tools.JavaCompiler;
import javax.tools.JavaFileObject;
import javax.tools.SimpleJavaFileObject;
import javax.tools.ToolProvider;

/** Which rules of LANGUAGE.md a source breaks, as far as reading it as javac does can tell (rules 7 and 13 are for the runs). */
final class Language extends TreePathScanner<Void, Void> {
    private static final int PARAMETERS = 7, LINES = 60, DEEP = 8, CLASSES = 12, FIELDS = 20;
    private static final Set<TypeKind> NUMBERS = Set.of(TypeKind.INT, TypeKind.LONG, TypeKind.SHORT, TypeKind.BYTE, TypeKind.CHAR,
        TypeKind.BOOLEAN, TypeKind.DOUBLE, TypeKind.FLOAT);
    private static final Map<String, Set<String>> LIBRARY = Map.of(
        "java.lang.String", Set.of("length", "charAt", "isEmpty", "equals", "indexOf", "substring", "toCharArray"),
        "java.lang.StringBuilder", Set.of("append", "charAt", "setCharAt", "setLength", "deleteCharAt", "reverse", "length", "toString"),
        "java.util.ArrayList", Set.of("add", "get", "set", "remove", "size", "isEmpty", "clear"),
        "java.util.List", Set.of("add", "get", "set", "remove", "size", "isEmpty", "clear", "of"),
        "java.lang.System", Set.of("arraycopy"),
        "java.util.Arrays", Set.of("copyOf", "copyOfRange", "fill"));
    private static final Set<String> MADE = Set.of("java.lang.String", "java.lang.StringBuilder", "java.util.ArrayList");
    private static final Set<String> TYPES = Set.of("java.lang.String", "java.lang.StringBuilder", "java.lang.Integer", "java.util.ArrayList",
        "java.util.List", "java.util.Iterator", "java.lang.Iterable", "java.lang.Comparable");

    private final List<String> broken = new ArrayList<>();
    private final Trees trees;
    private final CompilationUnitTree unit;
    private final String source;
    private final Map<Element, Set<Element>> calls = new LinkedHashMap<>();
    private final Set<String> publicMethods = new HashSet<>();
    private final Set<String> face = new TreeSet<>();
    private int classes = 0;

    private Language(Trees trees, CompilationUnitTree unit, String source) {
        this.trees = trees;
        this.unit = unit;
        this.source = source;
    }

    /** What is broken, each told as "rule N, line L: ..". The document's face is compared, if there is a document. */
    static List<String> brokenBy(String source, Path document) throws IOException {
        JavaCompiler compiler = ToolProvider.getSystemJavaCompiler();
        JavaFileObject file = new SimpleJavaFileObject(URI.create("string:///Source.java"), JavaFileObject.Kind.SOURCE) {
            @Override
            public CharSequence getCharContent(boolean ignore) {
                return source;
            }

            @Override
            public boolean isNameCompatible(String name, Kind kind) {
                return true;
            }
        };
        JavacTask task = (JavacTask) compiler.getTask(null, null, d -> { }, List.of("-proc:none"), null, List.of(file));
        CompilationUnitTree unit = task.parse().iterator().next();
        task.analyze();
        Language language = new Language(Trees.instance(task), unit, source);
        language.judge(document);
        return language.broken;
    }

    private void judge(Path document) throws IOException {
        if (unit.getPackage() != null || unit.getTypeDecls().size() != 1) {
            breaks(1, unit, "a package, or more than one class beside one another");
        }
        scan(unit, null);
        recursion();
        if (classes > CLASSES) {
            breaks(11, unit, classes + " classes");
        }
        if (document != null) {
            Set<String> due = faceOf(Files.readString(document, StandardCharsets.UTF_8));
            if (!due.equals(face)) {
                breaks(1, unit, "the face is " + face + ", due is " + due);
            }
        }
    }

    private static Set<String> faceOf(String document) {
        Set<String> due = new TreeSet<>();
        String block = document.substring(document.indexOf("```java") + 7, document.indexOf("```", document.indexOf("```java") + 7));
        Matcher constants = Pattern.compile("public static final (int|long) ([^;]*);").matcher(block);
        while (constants.find()) {
            for (String one : constants.group(2).split(",")) {
                due.add(constants.group(1) + " " + one.replaceAll("L$| ", ""));
            }
        }
        Matcher methods = Pattern.compile("public (?:(\\w+) )?(\\w+)\\(([^)]*)\\);").matcher(block);
        while (methods.find()) {
            String types = methods.group(3).replaceAll(" \\w+(,|$)", "$1").replace(" ", "");
            due.add((methods.group(1) == null ? "new" : methods.group(1) + " " + methods.group(2)) + "(" + types + ")");
        }
        return due;
    }

    private void breaks(int rule, Tree where, String what) {
        long at = Math.max(0, trees.getSourcePositions().getStartPosition(unit, where));
        broken.add("rule " + rule + ", line " + unit.getLineMap().getLineNumber(at) + ": " + what);
    }

    private Element elementOf(Tree tree) {
        return trees.getElement(new TreePath(getCurrentPath(), tree));
    }

    private TypeMirror typeOf(Tree tree) {
        return trees.getTypeMirror(new TreePath(getCurrentPath(), tree));
    }

    private static String nameOf(TypeMirror type) {
        return type instanceof DeclaredType ? ((TypeElement) ((DeclaredType) type).asElement()).getQualifiedName().toString() : "";
    }

    private boolean isOwn(Element element) {
        Element top = element;
        while (top != null && top.getEnclosingElement() != null && top.getEnclosingElement().getKind() != ElementKind.PACKAGE) {
            top = top.getEnclosingElement();
        }
        return top != null && top.equals(trees.getElement(new TreePath(new TreePath(unit), unit.getTypeDecls().get(0))));
    }

    private boolean isOwn(TypeMirror type) {
        return type instanceof DeclaredType && isOwn(((DeclaredType) type).asElement());
    }

    // ---- rules 1, 2, 11: classes and their members

    @Override
    public Void visitClass(ClassTree tree, Void none) {
        TypeElement it = (TypeElement) trees.getElement(getCurrentPath());
        Set<Modifier> modifiers = it.getModifiers();
        classes++;
        if (it.getNestingKind() == NestingKind.TOP_LEVEL) {
            if (!modifiers.contains(Modifier.PUBLIC) || !modifiers.contains(Modifier.FINAL)) {
                breaks(1, tree, "not public and final");
            }
            faceMembers(it, tree);
        } else if (it.getNestingKind() != NestingKind.MEMBER || !modifiers.contains(Modifier.STATIC)) {
            breaks(2, tree, "an inner, local or anonymous class");
        } else if (modifiers.contains(Modifier.PUBLIC) || modifiers.contains(Modifier.PROTECTED)) {
            breaks(1, tree, it + " can be seen");
        }
        int fields = 0;
        for (Element member : it.getEnclosedElements()) {
            fields += member.getKind() == ElementKind.FIELD && !member.getModifiers().contains(Modifier.STATIC) ? 1 : 0;
        }
        if (fields > FIELDS) {
            breaks(11, tree, fields + " fields");
        }
        return super.visitClass(tree, none);
    }

    private void faceMembers(TypeElement top, Tree tree) {
        for (Element member : top.getEnclosedElements()) {
            Set<Modifier> modifiers = member.getModifiers();
            boolean isPublic = modifiers.contains(Modifier.PUBLIC);
            if (member instanceof TypeElement) {
                continue;
            }
            if (!isPublic && !modifiers.contains(Modifier.PRIVATE)) {
                breaks(1, tree, member + " can be seen");
            }
            if (isPublic && member instanceof ExecutableElement) {
                boolean made = member.getKind() == ElementKind.CONSTRUCTOR;
                List<String> types = new ArrayList<>();
                for (VariableElement p : ((ExecutableElement) member).getParameters()) {
                    types.add(p.asType().toString());
                }
                String name = made ? "new" : ((ExecutableElement) member).getReturnType() + " " + member.getSimpleName();
                face.add((modifiers.contains(Modifier.STATIC) ? "static " : "") + name + "(" + String.join(",", types) + ")");
                publicMethods.add(member.getSimpleName().toString());
            } else if (isPublic) {
                face.add(member.asType() + " " + member.getSimpleName() + "=" + ((VariableElement) member).getConstantValue());
            }
        }
    }

    @Override
    public Void visitMethod(MethodTree tree, Void none) {
        ExecutableElement it = (ExecutableElement) trees.getElement(getCurrentPath());
        calls.computeIfAbsent(it, k -> new HashSet<>());
        boolean ofFace = it.getModifiers().contains(Modifier.PUBLIC)
            && ((TypeElement) it.getEnclosingElement()).getNestingKind() == NestingKind.TOP_LEVEL;
        if (!ofFace && it.getKind() == ElementKind.METHOD && publicMethods.contains(it.getSimpleName().toString())) {
            breaks(1, tree, it + " bears the name of a public one");
        }
        if (it.getParameters().size() > PARAMETERS) {
            breaks(11, tree, it + " takes more than seven");
        }
        long start = unit.getLineMap().getLineNumber(Math.max(0, trees.getSourcePositions().getStartPosition(unit, tree)));
        long last = trees.getSourcePositions().getEndPosition(unit, tree);
        if (last > 0 && unit.getLineMap().getLineNumber(last) - start + 1 > LINES) {
            breaks(11, tree, it + " is long");
        }
        if (tree.getReturnType() != null) {
            type(3, tree, typeOf(tree.getReturnType()));
        }
        if (!it.getThrownTypes().isEmpty()) {
            breaks(6, tree, "throws");
        }
        return super.visitMethod(tree, none);
    }

    @Override
    public Void visitLambdaExpression(LambdaExpressionTree tree, Void none) {
        breaks(2, tree, "a lambda");
        return super.visitLambdaExpression(tree, none);
    }

    @Override
    public Void visitMemberReference(MemberReferenceTree tree, Void none) {
        breaks(2, tree, "a method reference");
        return super.visitMemberReference(tree, none);
    }

    // ---- rules 3, 5: types, fields

    private void type(int rule, Tree where, TypeMirror type) {
        if (type != null && !isLeft(type)) {
            breaks(rule, where, "the type " + type);
        }
    }

    private boolean isLeft(TypeMirror type) {
        TypeKind kind = type.getKind();
        if (NUMBERS.contains(kind) || kind == TypeKind.VOID || kind == TypeKind.NULL || kind == TypeKind.TYPEVAR || isOwn(type)) {
            return true;
        }
        if (type instanceof ArrayType) {
            TypeMirror of = ((ArrayType) type).getComponentType();
            boolean ofNumbers = of instanceof ArrayType && NUMBERS.contains(((ArrayType) of).getComponentType().getKind());
            return ofNumbers || NUMBERS.contains(of.getKind()) || isOwn(of);
        }
        boolean left = TYPES.contains(nameOf(type));
        if (left) {
            for (TypeMirror of : ((DeclaredType) type).getTypeArguments()) {
                left &= isOwn(of) || nameOf(of).equals("java.lang.Integer") || of.getKind() == TypeKind.TYPEVAR;
            }
        }
        return left;
    }

    @Override
    public Void visitVariable(VariableTree tree, Void none) {
        VariableElement it = (VariableElement) trees.getElement(getCurrentPath());
        if (it != null && it.getKind() != ElementKind.ENUM_CONSTANT) {
            type(3, tree, it.asType());
            boolean field = it.getKind() == ElementKind.FIELD;
            boolean ofEnum = field && it.getEnclosingElement().getKind() == ElementKind.ENUM;
            if (field && it.getModifiers().contains(Modifier.STATIC)) {
                staticField(tree, it);
            } else if (ofEnum && !Set.of("int", "long", "boolean", "java.lang.String").contains(it.asType().toString())) {
                breaks(2, tree, "an enum's field of another type");
            }
        }
        return super.visitVariable(tree, none);
    }

    private void staticField(VariableTree tree, VariableElement it) {
        boolean constant = it.getConstantValue() != null
            && Set.of("int", "long", "boolean", "char", "java.lang.String").contains(it.asType().toString());
        boolean written = Set.of("int[]", "long[]", "char[]", "byte[]").contains(it.asType().toString())
            && tree.getInitializer() instanceof NewArrayTree && ((NewArrayTree) tree.getInitializer()).getInitializers() != null;
        if (!it.getModifiers().contains(Modifier.FINAL) || !constant && !written) {
            breaks(5, tree, it + " is no constant and no array that is written out");
        }
    }

    private void change(Tree of) {
        if (of instanceof ArrayAccessTree) {
            Element base = elementOf(((ArrayAccessTree) of).getExpression());
            if (base != null && base.getKind() == ElementKind.FIELD && base.getModifiers().contains(Modifier.STATIC)) {
                breaks(5, of, base + " is changed");
            }
        }
    }

    @Override
    public Void visitBlock(BlockTree tree, Void none) {
        if (tree.isStatic()) {
            breaks(5, tree, "a static block");
        }
        return super.visitBlock(tree, none);
    }

    @Override
    public Void visitAssignment(AssignmentTree tree, Void none) {
        change(tree.getVariable());
        return super.visitAssignment(tree, none);
    }

    @Override
    public Void visitUnary(UnaryTree tree, Void none) {
        if (tree.getKind().toString().contains("CREMENT")) {
            change(tree.getExpression());
        }
        return super.visitUnary(tree, none);
    }

    @Override
    public Void visitTypeCast(TypeCastTree tree, Void none) {
        type(3, tree, typeOf(tree.getType()));
        return super.visitTypeCast(tree, none);
    }

    @Override
    public Void visitNewArray(NewArrayTree tree, Void none) {
        type(3, tree, typeOf(tree));
        return super.visitNewArray(tree, none);
    }

    // ---- rule 4: the library

    @Override
    public Void visitMethodInvocation(MethodInvocationTree tree, Void none) {
        Element it = elementOf(tree.getMethodSelect());
        if (it instanceof ExecutableElement) {
            if (it.getKind() == ElementKind.METHOD && isOwn(it)) {
                called(it);
            } else if (it.getKind() == ElementKind.METHOD) {
                library(tree, (ExecutableElement) it);
            }
        }
        return super.visitMethodInvocation(tree, none);
    }

    private void library(MethodInvocationTree tree, ExecutableElement it) {
        String of = ((TypeElement) it.getEnclosingElement()).getQualifiedName().toString();
        String name = it.getSimpleName().toString();
        if (tree.getMethodSelect() instanceof MemberSelectTree && name.equals("clone")
            && typeOf(((MemberSelectTree) tree.getMethodSelect()).getExpression()) instanceof ArrayType) {
            return;
        }
        if (of.equals("java.lang.Object") || name.equals("equals") && !of.equals("java.lang.String")) {
            breaks(6, tree, of + "." + name);
        }
        boolean left = LIBRARY.getOrDefault(of, Set.of()).contains(name);
        String types = "";
        for (ExpressionTree argument : tree.getArguments()) {
            types += typeOf(argument) + ",";
        }
        if (of.equals("java.lang.Math") || of.equals("java.lang.Integer") || of.equals("java.lang.Long")) {
            left = !name.endsWith("Exact") && types.matches("((int|long|short|byte|char),)+")
                && it.getReturnType().toString().matches("int|long|boolean") && it.getModifiers().contains(Modifier.STATIC);
        } else if (of.equals("java.util.Arrays")) {
            left &= it.getParameters().get(0).asType().toString().matches("(int|long|short|byte|char|boolean|double|float)\\[\\]");
        } else if (name.equals("indexOf")) {
            left &= types.equals("char,");
        } else if (name.equals("equals")) {
            left &= types.equals("java.lang.String,");
        } else if (name.equals("append")) {
            left &= Set.of("char", "java.lang.String", "int").contains(it.getParameters().get(0).asType().toString());
        }
        if (!left) {
            breaks(4, tree, of + "." + it);
        }
    }

    @Override
    public Void visitNewClass(NewClassTree tree, Void none) {
        Element made = trees.getElement(getCurrentPath());
        if (made != null && isOwn(made)) {
            called(made);
        } else if (!MADE.contains(nameOf(typeOf(tree.getIdentifier())))) {
            breaks(4, tree, "new " + tree.getIdentifier());
        }
        return super.visitNewClass(tree, none);
    }

    @Override
    public Void visitLiteral(LiteralTree tree, Void none) {
        Object value = tree.getValue();
        boolean plain = !(value instanceof String) || ((String) value).chars().allMatch(c -> c >= 1 && c < 128);
        if (!plain || value instanceof Character && (Character) value > 127) {
            breaks(4, tree, "a sign beside 1 .. 127");
        }
        return super.visitLiteral(tree, none);
    }

    // ---- rules 6, 10: statements, operators

    @Override
    public Void visitThrow(ThrowTree tree, Void none) {
        breaks(6, tree, "throw");
        return super.visitThrow(tree, none);
    }

    @Override
    public Void visitTry(TryTree tree, Void none) {
        breaks(6, tree, "try");
        return super.visitTry(tree, none);
    }

    @Override
    public Void visitSynchronized(SynchronizedTree tree, Void none) {
        breaks(6, tree, "synchronized");
        return super.visitSynchronized(tree, none);
    }

    @Override
    public Void visitAssert(AssertTree tree, Void none) {
        breaks(6, tree, "assert");
        return super.visitAssert(tree, none);
    }

    @Override
    public Void visitBinary(BinaryTree tree, Void none) {
        String left = String.valueOf(typeOf(tree.getLeftOperand()));
        String right = String.valueOf(typeOf(tree.getRightOperand()));
        Tree.Kind kind = tree.getKind();
        boolean same = kind == Tree.Kind.EQUAL_TO || kind == Tree.Kind.NOT_EQUAL_TO;
        if (same && left.equals(right) && Set.of("java.lang.String", "java.lang.Integer").contains(left)) {
            breaks(6, tree, "== between two of " + left);
        }
        if (kind == Tree.Kind.PLUS && (left.equals("java.lang.String") || right.equals("java.lang.String"))) {
            breaks(10, tree, "texts joined by +");
        }
        if (kind == Tree.Kind.REMAINDER && (left + right).matches(".*(double|float).*")) {
            breaks(3, tree, "% on doubles");
        }
        return super.visitBinary(tree, none);
    }

    @Override
    public Void visitCompoundAssignment(CompoundAssignmentTree tree, Void none) {
        change(tree.getVariable());
        if (String.valueOf(typeOf(tree.getVariable())).equals("java.lang.String")) {
            breaks(10, tree, "texts joined by +=");
        }
        return super.visitCompoundAssignment(tree, none);
    }

    // ---- rule 8, 11: recursion, depth of calls

    private void called(Element it) {
        TreePath path = getCurrentPath();
        while (!(path.getLeaf() instanceof MethodTree) && !(path.getLeaf() instanceof ClassTree)) {
            boolean ofField = path.getLeaf() instanceof VariableTree && path.getParentPath().getLeaf() instanceof ClassTree;
            if (ofField && trees.getElement(path).getModifiers().contains(Modifier.STATIC)) {
                return;
            }
            path = path.getParentPath();
        }
        Element by = trees.getElement(path);
        if (by instanceof ExecutableElement) {
            calls.computeIfAbsent(by, k -> new HashSet<>()).add(it);
            return;
        }
        for (Element member : by.getEnclosedElements()) {
            if (member.getKind() == ElementKind.CONSTRUCTOR) {
                calls.computeIfAbsent(member, k -> new HashSet<>()).add(it);
            }
        }
    }

    private Set<Element> reached(Element from) {
        Set<Element> all = new HashSet<>();
        List<Element> open = new ArrayList<>(calls.getOrDefault(from, Set.of()));
        while (!open.isEmpty()) {
            Element next = open.remove(open.size() - 1);
            if (all.add(next)) {
                open.addAll(calls.getOrDefault(next, Set.of()));
            }
        }
        return all;
    }

    private void recursion() {
        Map<Element, Set<Element>> all = new LinkedHashMap<>();
        for (Element one : calls.keySet()) {
            all.put(one, reached(one));
        }
        for (Element one : calls.keySet()) {
            Set<Modifier> modifiers = one.getModifiers();
            boolean ofInterface = one.getEnclosingElement().getKind() == ElementKind.INTERFACE;
            if (all.get(one).contains(one) && !modifiers.contains(Modifier.PRIVATE) && !ofInterface) {
                breaks(8, unit, one + " is recursive, and not private");
            }
            if (calls.get(one).contains(one) && !modifiers.contains(Modifier.STATIC) && !ofInterface) {
                breaks(8, unit, one + " calls itself, and is not static");
            }
            int deep = deep(one, all);
            if (deep > DEEP) {
                breaks(11, unit, one + " goes " + deep + " calls deep");
            }
        }
    }

    /** Methods that call one another count as one. */
    private int deep(Element from, Map<Element, Set<Element>> all) {
        int deepest = 0;
        Set<Element> ring = new HashSet<>(Set.of(from));
        for (Element one : all.getOrDefault(from, Set.of())) {
            if (all.getOrDefault(one, Set.of()).contains(from)) {
                ring.add(one);
            }
        }
        for (Element one : ring) {
            for (Element next : calls.getOrDefault(one, Set.of())) {
                deepest = ring.contains(next) ? deepest : Math.max(deepest, deep(next, all));
            }
        }
        return deepest + 1;
    }

    // ---- rule 9: loops

    @Override
    public Void visitWhileLoop(WhileLoopTree tree, Void none) {
        loop(tree, tree.getCondition());
        return super.visitWhileLoop(tree, none);
    }

    @Override
    public Void visitDoWhileLoop(DoWhileLoopTree tree, Void none) {
        loop(tree, tree.getCondition());
        return super.visitDoWhileLoop(tree, none);
    }

    @Override
    public Void visitForLoop(ForLoopTree tree, Void none) {
        loop(tree, tree.getCondition());
        return super.visitForLoop(tree, none);
    }

    /** One of what must all hold compares a name that the loop changes (or is a chain's next against null). */
    private void loop(Tree tree, ExpressionTree condition) {
        Set<String> changed = new HashSet<>();
        new TreeScanner<Void, Void>() {
            @Override
            public Void visitAssignment(AssignmentTree it, Void none) {
                changed.add(it.getVariable().toString());
                return super.visitAssignment(it, none);
            }

            @Override
            public Void visitCompoundAssignment(CompoundAssignmentTree it, Void none) {
                changed.add(it.getVariable().toString());
                return super.visitCompoundAssignment(it, none);
            }

            @Override
            public Void visitUnary(UnaryTree it, Void none) {
                if (it.getKind().toString().contains("CREMENT")) {
                    changed.add(it.getExpression().toString());
                }
                return super.visitUnary(it, none);
            }
        }.scan(tree, null);
        if (condition == null || !ends(condition, changed)) {
            breaks(9, tree, "a loop whose end can't be seen: " + condition);
        }
    }

    private boolean ends(ExpressionTree condition, Set<String> changed) {
        if (condition instanceof ParenthesizedTree) {
            return ends(((ParenthesizedTree) condition).getExpression(), changed);
        }
        if (!(condition instanceof BinaryTree)) {
            return false;
        }
        BinaryTree it = (BinaryTree) condition;
        switch (it.getKind()) {
            case CONDITIONAL_AND:
                return ends(it.getLeftOperand(), changed) || ends(it.getRightOperand(), changed);
            case LESS_THAN: case GREATER_THAN: case LESS_THAN_EQUAL: case GREATER_THAN_EQUAL:
                return names(it, changed);
            case NOT_EQUAL_TO:
                return it.getRightOperand().getKind() == Tree.Kind.NULL_LITERAL && names(it.getLeftOperand(), changed);
            default:
                return false;
        }
    }

    private static boolean names(Tree tree, Set<String> changed) {
        boolean[] found = {false};
        new TreeScanner<Void, Void>() {
            @Override
            public Void visitIdentifier(IdentifierTree it, Void none) {
                found[0] |= changed.contains(it.getName().toString());
                return null;
            }
        }.scan(tree, null);
        return found[0];
    }

    // ---- rule 12: constructors

    @Override
    public Void visitIdentifier(IdentifierTree tree, Void none) {
        boolean bare = tree.getName().contentEquals("this") && !(getCurrentPath().getParentPath().getLeaf() instanceof MemberSelectTree);
        for (TreePath path = getCurrentPath(); bare && path != null; path = path.getParentPath()) {
            if (path.getLeaf() instanceof MethodTree && ((MethodTree) path.getLeaf()).getName().contentEquals("<init>")) {
                breaks(12, tree, "a constructor hands out its object");
            }
        }
        return super.visitIdentifier(tree, none);
    }
}
