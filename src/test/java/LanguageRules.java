import com.sun.source.tree.AssertTree;
import com.sun.source.tree.BinaryTree;
import com.sun.source.tree.BlockTree;
import com.sun.source.tree.ClassTree;
import com.sun.source.tree.CompilationUnitTree;
import com.sun.source.tree.CompoundAssignmentTree;
import com.sun.source.tree.ExpressionTree;
import com.sun.source.tree.ImportTree;
import com.sun.source.tree.LambdaExpressionTree;
import com.sun.source.tree.MemberReferenceTree;
import com.sun.source.tree.MethodInvocationTree;
import com.sun.source.tree.MethodTree;
import com.sun.source.tree.NewArrayTree;
import com.sun.source.tree.NewClassTree;
import com.sun.source.tree.SynchronizedTree;
import com.sun.source.tree.ThrowTree;
import com.sun.source.tree.Tree;
import com.sun.source.tree.TryTree;
import com.sun.source.tree.VariableTree;
import com.sun.source.util.JavacTask;
import com.sun.source.util.TreePathScanner;
import com.sun.source.util.Trees;
import java.io.IOException;
import java.net.URI;
import java.util.ArrayList;
import java.util.HashMap;
import java.util.LinkedHashMap;
import java.util.LinkedHashSet;
import java.util.List;
import java.util.Map;
import java.util.Set;
import java.util.TreeSet;
import javax.lang.model.element.Element;
import javax.lang.model.element.Modifier;
import javax.lang.model.type.TypeMirror;
import javax.tools.DiagnosticCollector;
import javax.tools.JavaFileObject;
import javax.tools.SimpleJavaFileObject;
import javax.tools.ToolProvider;

/** The rules of ../shared/LANGUAGE.md that can be read off a source; each fault bears the rule's number. */
final class LanguageRules extends TreePathScanner<Void, Void> {
    private static final int MOST_LINES = 60;
    private static final int MOST_PARAMETERS = 7;
    private static final int MOST_CLASSES = 12;
    private static final int MOST_FIELDS = 20;
    private static final int DEEPEST_CALLS = 8;
    private static final Set<String> IMPORTS = Set.of(
        "java.util.Arrays", "java.util.ArrayList", "java.util.List", "java.util.Iterator");
    private static final Set<String> NUMBERS = Set.of("int", "long", "short", "byte", "char", "boolean");
    private static final Set<String> LIBRARY_TYPES = Set.of("java.lang.String", "java.lang.StringBuilder",
        "java.lang.Integer", "java.util.ArrayList", "java.util.List");
    private static final Set<String> STATIC_TYPES = Set.of("int", "long", "boolean", "char", "java.lang.String",
        "int[]", "long[]", "char[]", "byte[]");
    private static final Map<String, Set<String>> LIBRARY = Map.of(
        "java.lang.Object", Set.of("<init>"),
        "java.lang.Math", Set.of("floorMod", "floorDiv", "abs", "max", "min"),
        "java.lang.Integer", Set.of("compare", "max", "min", "bitCount"),
        "java.lang.Long", Set.of("compare", "max", "min", "bitCount"),
        "java.lang.System", Set.of("arraycopy"),
        "java.util.Arrays", Set.of("copyOf", "copyOfRange", "fill"),
        "java.lang.String", Set.of("length", "charAt", "isEmpty", "equals", "indexOf", "substring", "toCharArray"),
        "java.lang.StringBuilder", Set.of("append", "charAt", "setCharAt", "setLength", "deleteCharAt", "reverse",
            "length", "toString"),
        "java.util.ArrayList", Set.of("add", "get", "set", "remove", "size", "isEmpty", "clear"),
        "java.util.List", Set.of("add", "get", "set", "remove", "size", "isEmpty", "clear", "of"));

    private final List<String> faults = new ArrayList<>();
    private final Map<Element, Set<Element>> calls = new LinkedHashMap<>();
    private final Trees trees;
    private final CompilationUnitTree unit;
    private int classes = 0;
    private Element method = null;

    private LanguageRules(Trees trees, CompilationUnitTree unit) {
        this.trees = trees;
        this.unit = unit;
    }

    /** The faults of a source of the class FaceRounds; a source that does not compile has one, too. */
    static List<String> faultsOf(String source) throws IOException {
        JavaFileObject file = new SimpleJavaFileObject(URI.create("string:///FaceRounds.java"), JavaFileObject.Kind.SOURCE) {
            @Override
            public CharSequence getCharContent(boolean ignoreEncodingErrors) {
                return source;
            }
        };
        DiagnosticCollector<JavaFileObject> said = new DiagnosticCollector<>();
        JavacTask task = (JavacTask) ToolProvider.getSystemJavaCompiler()
            .getTask(null, null, said, List.of("-proc:none"), null, List.of(file));
        CompilationUnitTree unit = task.parse().iterator().next();
        task.analyze();
        LanguageRules rules = new LanguageRules(Trees.instance(task), unit);
        if (said.getDiagnostics().isEmpty()) {
            rules.look(source);
        } else {
            rules.fault(0, said.getDiagnostics().get(0).toString());
        }
        return rules.faults;
    }

    private void fault(int rule, String what) {
        faults.add("rule " + rule + ": " + what);
    }

    private void look(String source) {
        if (unit.getPackageName() != null || unit.getTypeDecls().size() != 1) {
            fault(0, "a package, or not one class");
            return;
        }
        if (!source.chars().allMatch(sign -> sign >= 1 && sign <= 127)) {
            fault(4, "a sign that is not 1 to 127");
        }
        scan(unit, null);
        if (classes > MOST_CLASSES) {
            fault(11, classes + " classes");
        }
        Map<Element, Integer> depths = new HashMap<>();
        for (Element one : calls.keySet()) {
            if (depthOf(one, depths) > DEEPEST_CALLS) {
                fault(11, one + " calls too deep");
            }
        }
    }

    private int depthOf(Element one, Map<Element, Integer> depths) {
        Integer known = depths.get(one);
        if (known != null) {
            if (known == 0) {
                fault(8, one + " calls itself");
            }
            return known;
        }
        depths.put(one, 0);
        int depth = 1;
        for (Element other : calls.get(one)) {
            depth = Math.max(depth, calls.containsKey(other) ? 1 + depthOf(other, depths) : 1);
        }
        depths.put(one, depth);
        return depth;
    }

    private Element element() {
        return trees.getElement(getCurrentPath());
    }

    private TypeMirror typeOf(Tree tree) {
        return trees.getTypeMirror(trees.getPath(unit, tree));
    }

    private static boolean isOwn(String type) {
        return type.equals("FaceRounds") || type.startsWith("FaceRounds.");
    }

    @Override
    public Void visitImport(ImportTree tree, Void none) {
        if (tree.isStatic() || !IMPORTS.contains(tree.getQualifiedIdentifier().toString())) {
            fault(4, "imports " + tree.getQualifiedIdentifier());
        }
        return null;
    }

    @Override
    public Void visitClass(ClassTree tree, Void none) {
        classes++;
        Set<Modifier> is = element().getModifiers();
        if (getCurrentPath().getParentPath().getLeaf() == unit) {
            if (!is.contains(Modifier.PUBLIC) || !is.contains(Modifier.FINAL)) {
                fault(1, "the class is not public and final");
            }
            lookAtMembers(element());
        } else if (!is.contains(Modifier.STATIC) || is.contains(Modifier.PUBLIC) || is.contains(Modifier.PROTECTED)) {
            fault(2, tree.getSimpleName() + " is not static, or not private or package-visible");
        }
        int fields = 0;
        for (Tree member : tree.getMembers()) {
            if (member instanceof VariableTree && !((VariableTree) member).getModifiers().getFlags().contains(Modifier.STATIC)) {
                fields++;
            }
            if (member instanceof BlockTree) {
                fault(5, "an initialiser block");
            }
        }
        if (fields > MOST_FIELDS) {
            fault(11, tree.getSimpleName() + " has " + fields + " fields");
        }
        return super.visitClass(tree, none);
    }

    private void lookAtMembers(Element face) {
        Set<String> open = new TreeSet<>();
        for (Element member : face.getEnclosedElements()) {
            boolean inside = member.getKind().isClass() || member.getKind().isInterface();
            if (member.getModifiers().contains(Modifier.PUBLIC)) {
                open.add(member.getSimpleName().toString());
            } else if (!inside && !member.getModifiers().contains(Modifier.PRIVATE)) {
                fault(1, member + " is neither public nor private");
            }
        }
        for (Element member : face.getEnclosedElements()) {
            String name = member.getSimpleName().toString();
            if (member.getModifiers().contains(Modifier.PRIVATE) && open.contains(name)) {
                fault(1, name + " is private and bears the name of a public one");
            }
        }
    }

    @Override
    public Void visitMethod(MethodTree tree, Void none) {
        Element outer = method;
        method = element();
        calls.put(method, new LinkedHashSet<>());
        if (Set.of("equals", "hashCode", "toString").contains(tree.getName().toString())) {
            fault(6, "a method " + tree.getName());
        }
        if (tree.getParameters().size() > MOST_PARAMETERS) {
            fault(11, tree.getName() + " takes " + tree.getParameters().size());
        }
        long from = trees.getSourcePositions().getStartPosition(unit, tree);
        long to = trees.getSourcePositions().getEndPosition(unit, tree);
        long lines = to < 0 ? 0 : unit.getLineMap().getLineNumber(to) - unit.getLineMap().getLineNumber(from) + 1;
        if (lines > MOST_LINES) {
            fault(11, tree.getName() + " has " + lines + " lines");
        }
        super.visitMethod(tree, none);
        method = outer;
        return null;
    }

    @Override
    public Void visitVariable(VariableTree tree, Void none) {
        String type = typeOf(tree).toString();
        if (!mayHold(type)) {
            fault(3, tree.getName() + " is of the type " + type);
        }
        if (tree.getModifiers().getFlags().contains(Modifier.STATIC)) {
            lookAtStatic(tree, type);
        }
        return super.visitVariable(tree, none);
    }

    private static boolean mayHold(String type) {
        String plain = type.replaceFirst("<.*>", "");
        if (plain.endsWith("[][]")) {
            return NUMBERS.contains(plain.substring(0, plain.length() - 4));
        }
        if (plain.endsWith("[]")) {
            String part = plain.substring(0, plain.length() - 2);
            return NUMBERS.contains(part) || isOwn(part);
        }
        return NUMBERS.contains(plain) || isOwn(plain) || LIBRARY_TYPES.contains(plain);
    }

    private void lookAtStatic(VariableTree tree, String type) {
        boolean written = tree.getInitializer() != null
            && (!type.endsWith("[]") || tree.getInitializer() instanceof NewArrayTree
                && ((NewArrayTree) tree.getInitializer()).getInitializers() != null);
        boolean constant = tree.getModifiers().getFlags().contains(Modifier.FINAL) && STATIC_TYPES.contains(type);
        if (!constant || !written) {
            fault(5, tree.getName() + " is no constant");
        }
    }

    @Override
    public Void visitMethodInvocation(MethodInvocationTree tree, Void none) {
        Element called = element();
        String owner = called.getEnclosingElement().toString();
        if (isOwn(owner)) {
            if (method != null) {
                calls.get(method).add(called);
            }
        } else if (!isAllowed(owner, called.getSimpleName().toString())) {
            fault(4, "calls " + called + " of " + owner);
        }
        return super.visitMethodInvocation(tree, none);
    }

    private static boolean isAllowed(String owner, String name) {
        return LIBRARY.containsKey(owner) && LIBRARY.get(owner).contains(name)
            || owner.equals("Array") && name.equals("clone");
    }

    @Override
    public Void visitNewClass(NewClassTree tree, Void none) {
        String type = typeOf(tree).toString().replaceFirst("<.*>", "");
        if (tree.getClassBody() != null) {
            fault(2, "a class without a name");
        } else if (!isOwn(type) && !LIBRARY_TYPES.contains(type)) {
            fault(4, "makes a " + type);
        }
        made();
        return super.visitNewClass(tree, none);
    }

    @Override
    public Void visitNewArray(NewArrayTree tree, Void none) {
        made();
        return super.visitNewArray(tree, none);
    }

    /** FaceRounds makes all in its constructor, so that the room does not grow with the calls. */
    private void made() {
        if (method != null && !method.getSimpleName().contentEquals("<init>")) {
            fault(12, method + " makes an object or an array");
        }
    }

    @Override
    public Void visitBinary(BinaryTree tree, Void none) {
        boolean same = tree.getKind() == Tree.Kind.EQUAL_TO || tree.getKind() == Tree.Kind.NOT_EQUAL_TO;
        if (same && isBoxed(tree.getLeftOperand()) && isBoxed(tree.getRightOperand())) {
            fault(6, "compares " + tree);
        }
        if (tree.getKind() == Tree.Kind.PLUS && typeOf(tree).toString().equals("java.lang.String")) {
            fault(10, "joins by " + tree);
        }
        return super.visitBinary(tree, none);
    }

    private boolean isBoxed(ExpressionTree tree) {
        String type = typeOf(tree).toString();
        return type.equals("java.lang.String") || type.equals("java.lang.Integer");
    }

    @Override
    public Void visitCompoundAssignment(CompoundAssignmentTree tree, Void none) {
        if (typeOf(tree).toString().equals("java.lang.String")) {
            fault(10, "joins by " + tree);
        }
        return super.visitCompoundAssignment(tree, none);
    }

    @Override
    public Void visitThrow(ThrowTree tree, Void none) {
        fault(6, "throw");
        return super.visitThrow(tree, none);
    }

    @Override
    public Void visitTry(TryTree tree, Void none) {
        fault(6, "try");
        return super.visitTry(tree, none);
    }

    @Override
    public Void visitSynchronized(SynchronizedTree tree, Void none) {
        fault(6, "synchronized");
        return super.visitSynchronized(tree, none);
    }

    @Override
    public Void visitAssert(AssertTree tree, Void none) {
        fault(6, "assert");
        return super.visitAssert(tree, none);
    }

    @Override
    public Void visitLambdaExpression(LambdaExpressionTree tree, Void none) {
        fault(2, "a lambda");
        return super.visitLambdaExpression(tree, none);
    }

    @Override
    public Void visitMemberReference(MemberReferenceTree tree, Void none) {
        fault(2, "a method reference");
        return super.visitMemberReference(tree, none);
    }
}
