import com.sun.source.tree.*;
import com.sun.source.util.JavacTask;
import com.sun.source.util.SourcePositions;
import com.sun.source.util.TreePath;
import com.sun.source.util.TreePathScanner;
import com.sun.source.util.Trees;
import java.io.File;
import java.util.EnumSet;
import java.util.HashMap;
import java.util.LinkedHashSet;
import java.util.List;
import java.util.Map;
import java.util.Set;
import javax.lang.model.element.Element;
import javax.lang.model.element.ElementKind;
import javax.lang.model.element.ExecutableElement;
import javax.lang.model.element.Modifier;
import javax.lang.model.element.NestingKind;
import javax.lang.model.element.TypeElement;
import javax.lang.model.element.VariableElement;
import javax.lang.model.type.ArrayType;
import javax.lang.model.type.DeclaredType;
import javax.lang.model.type.TypeKind;
import javax.lang.model.type.TypeMirror;
import javax.tools.JavaCompiler;
import javax.tools.StandardJavaFileManager;
import javax.tools.ToolProvider;

/** LANGUAGE.md by the compiler's own trees: kinds of statement, types, library calls, sizes, depth of calls. */
public final class LanguageTrees extends TreePathScanner<Void, Void> {
    private static final Set<Tree.Kind> FORBIDDEN = EnumSet.of(Tree.Kind.THROW, Tree.Kind.TRY, Tree.Kind.CATCH,
            Tree.Kind.SYNCHRONIZED, Tree.Kind.ASSERT, Tree.Kind.LAMBDA_EXPRESSION, Tree.Kind.MEMBER_REFERENCE,
            Tree.Kind.IMPORT, Tree.Kind.PACKAGE, Tree.Kind.ANNOTATION, Tree.Kind.SWITCH_EXPRESSION);
    /** What of rule 4 the class calls; whatever else it comes to call is to be looked up there and added here. */
    private static final Set<String> LIBRARY = Set.of("java.lang.String.length", "java.lang.String.charAt",
            "java.lang.Math.max", "java.lang.Math.min", "java.lang.Integer.bitCount", "java.lang.System.arraycopy");
    private static final int MOST_PARAMETERS = 7;
    private static final int MOST_LINES = 60;
    private static final int MOST_CALLS_DEEP = 8;
    private static final int MOST_CLASSES = 12;
    private static final int MOST_FIELDS = 20;

    private final Trees trees;
    private final CompilationUnitTree unit;
    private final Map<String, Set<String>> calls = new HashMap<>();
    private final Map<String, ExecutableElement> methods = new HashMap<>();
    private final Map<Element, Integer> fields = new HashMap<>();
    private final Set<String> publicNames = new LinkedHashSet<>();
    private int classes;

    private LanguageTrees(Trees trees, CompilationUnitTree unit) {
        this.trees = trees;
        this.unit = unit;
    }

    public static void main(String[] args) throws Exception {
        JavaCompiler compiler = ToolProvider.getSystemJavaCompiler();
        try (StandardJavaFileManager files = compiler.getStandardFileManager(null, null, null)) {
            JavacTask task = (JavacTask) compiler.getTask(null, files, null, List.of("-proc:none"), null,
                    files.getJavaFileObjects(new File(args[0])));
            CompilationUnitTree unit = task.parse().iterator().next();
            task.analyze();
            new LanguageTrees(Trees.instance(task), unit).look();
        }
        Check.endOf("LanguageTrees");
    }

    private void look() {
        scan(unit, null);
        Check.due("rule 11: classes, twelve at most: " + classes, classes <= MOST_CLASSES ? 1 : 0, 1);
        Check.due("public methods", publicNames.size(), 31);
        Check.due("rule 11: calls that are no recursion go at most eight deep: " + deepest(),
                depths().values().stream().allMatch(d -> d <= MOST_CALLS_DEEP) ? 1 : 0, 1);
        for (ExecutableElement method : methods.values()) {
            boolean hidden = !method.getModifiers().contains(Modifier.PUBLIC);
            fair(!(hidden && publicNames.contains(method.getSimpleName().toString())), "rule 1: a name of the face", method);
        }
        for (Map.Entry<Element, Integer> entry : fields.entrySet()) {
            fair(entry.getValue() <= MOST_FIELDS, "rule 11: fields " + entry.getValue(), entry.getKey());
        }
    }

    private static void fair(boolean holds, String rule, Object where) {
        Check.due(rule + " at " + where, holds ? 1 : 0, 1);
    }

    @Override
    public Void scan(Tree tree, Void none) {
        if (tree != null && FORBIDDEN.contains(tree.getKind())) {
            Check.fails("rules 2, 6: " + tree.getKind() + " in " + tree);
        }
        return super.scan(tree, none);
    }

    @Override
    public Void visitClass(ClassTree tree, Void none) {
        TypeElement type = (TypeElement) trees.getElement(getCurrentPath());
        classes++;
        if (type.getNestingKind() == NestingKind.TOP_LEVEL) {
            fair(type.getModifiers().equals(EnumSet.of(Modifier.PUBLIC, Modifier.FINAL)), "rule 1: public and final", type);
        } else {
            fair(type.getNestingKind() == NestingKind.MEMBER && type.getModifiers().contains(Modifier.STATIC)
                    && !type.getModifiers().contains(Modifier.PUBLIC) && !type.getModifiers().contains(Modifier.PROTECTED),
                    "rules 1, 2: static, private or package-visible", type);
        }
        for (Element member : type.getEnclosedElements()) {
            boolean top = type.getNestingKind() == NestingKind.TOP_LEVEL;
            boolean open = member.getModifiers().contains(Modifier.PUBLIC);
            fair(!top || open || member.getKind().isClass() || member.getModifiers().contains(Modifier.PRIVATE),
                    "rule 1: private", member);
            if (top && open && member.getKind() == ElementKind.METHOD) {
                publicNames.add(member.getSimpleName().toString());
            }
            if (member.getKind() == ElementKind.FIELD && !member.getModifiers().contains(Modifier.STATIC)) {
                fields.merge(type, 1, Integer::sum);
            }
        }
        for (Tree member : tree.getMembers()) {
            fair(member.getKind() != Tree.Kind.BLOCK, "rule 5: no initialiser block", type);
        }
        return super.visitClass(tree, none);
    }

    @Override
    public Void visitMethod(MethodTree tree, Void none) {
        ExecutableElement method = (ExecutableElement) trees.getElement(getCurrentPath());
        methods.put(name(method), method);
        fair(tree.getParameters().size() <= MOST_PARAMETERS, "rule 11: parameters", method);
        fair(tree.getThrows().isEmpty(), "rule 6: no exceptions", method);
        SourcePositions positions = trees.getSourcePositions();
        long from = positions.getStartPosition(unit, tree);
        long to = positions.getEndPosition(unit, tree);
        if (from >= 0 && to > from) {
            long lines = unit.getLineMap().getLineNumber(to) - unit.getLineMap().getLineNumber(from) + 1;
            fair(lines <= MOST_LINES, "rule 11: lines " + lines, method);
        }
        return super.visitMethod(tree, none);
    }

    @Override
    public Void visitVariable(VariableTree tree, Void none) {
        VariableElement variable = (VariableElement) trees.getElement(getCurrentPath());
        fair(isTold(variable.asType()), "rule 3: type " + variable.asType(), variable);
        if (variable.getModifiers().contains(Modifier.STATIC)) {
            fair(variable.getModifiers().contains(Modifier.FINAL) && isConstant(variable.asType())
                    && tree.getInitializer() != null, "rule 5: a static field", variable);
        }
        return super.visitVariable(tree, none);
    }

    private boolean isOwn(Element type) {
        return type.toString().equals("MixCover") || type.toString().startsWith("MixCover.");
    }

    private boolean isTold(TypeMirror type) {
        if (type.getKind().isPrimitive()) {
            return true;
        }
        if (type instanceof ArrayType) {
            TypeMirror part = ((ArrayType) type).getComponentType();
            boolean oneOfOwn = part.getKind() == TypeKind.DECLARED && isOwn(((DeclaredType) part).asElement());
            boolean twoOfNumbers = part instanceof ArrayType
                    && ((ArrayType) part).getComponentType().getKind().isPrimitive();
            return part.getKind().isPrimitive() || oneOfOwn || twoOfNumbers;
        }
        if (type.getKind() != TypeKind.DECLARED) {
            return false;
        }
        Element element = ((DeclaredType) type).asElement();
        return isOwn(element) || element.toString().equals("java.lang.String");
    }

    private static boolean isConstant(TypeMirror type) {
        if (type instanceof ArrayType) {
            TypeKind kind = ((ArrayType) type).getComponentType().getKind();
            return EnumSet.of(TypeKind.INT, TypeKind.LONG, TypeKind.CHAR, TypeKind.BYTE).contains(kind);
        }
        return EnumSet.of(TypeKind.INT, TypeKind.LONG, TypeKind.BOOLEAN, TypeKind.CHAR).contains(type.getKind())
                || type.toString().equals("java.lang.String");
    }

    @Override
    public Void visitMethodInvocation(MethodInvocationTree tree, Void none) {
        called(trees.getElement(getCurrentPath()));
        return super.visitMethodInvocation(tree, none);
    }

    @Override
    public Void visitNewClass(NewClassTree tree, Void none) {
        fair(tree.getClassBody() == null, "rule 2: no anonymous class", tree);
        called(trees.getElement(getCurrentPath()));
        return super.visitNewClass(tree, none);
    }

    private void called(Element target) {
        String owner = target.getEnclosingElement().toString();
        if (isOwn(target.getEnclosingElement())) {
            calls.computeIfAbsent(caller(), key -> new LinkedHashSet<>()).add(name(target));
        } else if (!owner.equals("java.lang.Object")) {
            String call = owner + "." + target.getSimpleName();
            fair(LIBRARY.contains(call), "rule 4: " + call, caller());
        }
    }

    private String caller() {
        for (TreePath path = getCurrentPath(); path != null; path = path.getParentPath()) {
            if (path.getLeaf().getKind() == Tree.Kind.METHOD) {
                return name(trees.getElement(path));
            }
        }
        // A field's initialiser, which the constructor runs.
        return "MixCover.MixCover()";
    }

    private static String name(Element method) {
        return method.getEnclosingElement() + "." + method;
    }

    /** How deep the calls below each method go, itself counted; a method that calls itself counts as one. */
    private Map<String, Integer> depths() {
        Map<String, Integer> depths = new HashMap<>();
        for (String method : methods.keySet()) {
            depth(method, new LinkedHashSet<>(), depths);
        }
        return depths;
    }

    private int depth(String method, Set<String> above, Map<String, Integer> depths) {
        if (depths.containsKey(method)) {
            return depths.get(method);
        }
        above.add(method);
        int below = 0;
        for (String called : calls.getOrDefault(method, Set.of())) {
            if (called.equals(method)) {
                Set<Modifier> modifiers = methods.get(method).getModifiers();
                fair(modifiers.contains(Modifier.PRIVATE) && modifiers.contains(Modifier.STATIC), "rule 8", method);
            } else if (above.contains(called)) {
                Check.fails("rule 8: methods that call one another: " + above + " " + called);
            } else {
                below = Math.max(below, depth(called, above, depths));
            }
        }
        above.remove(method);
        depths.put(method, below + 1);
        return below + 1;
    }

    private String deepest() {
        return depths().entrySet().stream().max(Map.Entry.comparingByValue()).map(Object::toString).orElse("");
    }
}
