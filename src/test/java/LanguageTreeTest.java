import com.sun.source.tree.ClassTree;
import com.sun.source.tree.CompilationUnitTree;
import com.sun.source.tree.LineMap;
import com.sun.source.tree.MethodInvocationTree;
import com.sun.source.tree.MethodTree;
import com.sun.source.tree.NewClassTree;
import com.sun.source.tree.Tree;
import com.sun.source.tree.VariableTree;
import com.sun.source.util.JavacTask;
import com.sun.source.util.TreePathScanner;
import com.sun.source.util.Trees;
import java.nio.file.Path;
import java.util.ArrayDeque;
import java.util.Deque;
import java.util.HashMap;
import java.util.List;
import java.util.Map;
import java.util.Set;
import java.util.TreeMap;
import java.util.TreeSet;
import javax.lang.model.element.Element;
import javax.lang.model.element.ElementKind;
import javax.lang.model.element.ExecutableElement;
import javax.lang.model.element.Modifier;
import javax.lang.model.element.NestingKind;
import javax.lang.model.element.TypeElement;
import javax.tools.JavaCompiler;
import javax.tools.StandardJavaFileManager;
import javax.tools.ToolProvider;

/** The rules of LANGUAGE.md that can be seen in the class's tree, as the compiler reads it. */
public final class LanguageTreeTest {
    private static final Set<Tree.Kind> NEVER = Set.of(Tree.Kind.THROW, Tree.Kind.TRY, Tree.Kind.CATCH,
        Tree.Kind.SYNCHRONIZED, Tree.Kind.ASSERT, Tree.Kind.LAMBDA_EXPRESSION, Tree.Kind.MEMBER_REFERENCE,
        Tree.Kind.SWITCH_EXPRESSION, Tree.Kind.YIELD, Tree.Kind.ANNOTATION, Tree.Kind.INTERSECTION_TYPE,
        Tree.Kind.UNION_TYPE, Tree.Kind.EXTENDS_WILDCARD, Tree.Kind.SUPER_WILDCARD, Tree.Kind.UNBOUNDED_WILDCARD);
    private static final Set<String> TYPES = Set.of("int", "long", "boolean", "char", "java.lang.String");
    // What the class uses of all that LANGUAGE.md lists; what more it lists may be put here.
    private static final Set<String> LIBRARY = Set.of("java.lang.Integer.bitCount", "java.lang.Long.bitCount",
        "java.lang.Integer.numberOfLeadingZeros", "java.lang.Integer.numberOfTrailingZeros", "java.lang.Math.max",
        "java.lang.Math.min", "java.lang.String.length", "java.lang.String.charAt", "java.lang.System.arraycopy",
        "java.util.Arrays.copyOf", "java.util.Arrays.fill");
    private static final int MOST_CLASSES_INSIDE = 12;
    private static final int MOST_FIELDS = 20;
    private static final int MOST_PARAMETERS = 7;
    private static final int MOST_LINES = 60;
    private static final int MOST_DEEP = 8;

    private static int wrong;

    private final Map<String, Set<String>> calls = new TreeMap<>();
    private final Map<String, Element> methods = new TreeMap<>();
    private final Map<String, Integer> fields = new TreeMap<>();
    private final Map<String, Integer> depths = new HashMap<>();
    private int classesInside;

    public static void main(String[] args) throws Exception {
        JavaCompiler compiler = ToolProvider.getSystemJavaCompiler();
        try (StandardJavaFileManager files = compiler.getStandardFileManager(null, null, null)) {
            JavacTask task = (JavacTask) compiler.getTask(null, files, null, List.of("--release", "17"), null,
                files.getJavaFileObjects(Path.of("src/main/java/SkyMargins.java")));
            LanguageTreeTest test = new LanguageTreeTest();
            for (CompilationUnitTree unit : task.parse()) {
                task.analyze();
                test.look(unit, Trees.instance(task));
            }
            test.judge();
        }
        if (wrong != 0) {
            System.exit(1);
        }
    }

    private static void need(boolean so, String what) {
        if (!so) {
            wrong++;
            System.out.println("against LANGUAGE.md: " + what);
        }
    }

    private static String name(Element method) {
        return method.getEnclosingElement() + "." + method.getSimpleName();
    }

    private void look(CompilationUnitTree unit, Trees trees) {
        need(unit.getPackageName() == null, "a package line");
        need(unit.getTypeDecls().size() == 1, "more than one class in the file");
        new TreePathScanner<Void, String>() {
            @Override
            public Void scan(Tree tree, String in) {
                need(tree == null || !NEVER.contains(tree.getKind()), "" + tree);
                return super.scan(tree, in);
            }

            @Override
            public Void visitClass(ClassTree tree, String in) {
                lookAtClass((TypeElement) trees.getElement(getCurrentPath()));
                return super.visitClass(tree, in);
            }

            @Override
            public Void visitMethod(MethodTree tree, String in) {
                Element method = trees.getElement(getCurrentPath());
                lookAtMethod(method, tree);
                long from = trees.getSourcePositions().getStartPosition(unit, tree);
                long to = trees.getSourcePositions().getEndPosition(unit, tree);
                LineMap map = unit.getLineMap();
                long lines = to < 0 ? 0 : map.getLineNumber(to) - map.getLineNumber(from) + 1;
                need(lines <= MOST_LINES, name(method) + " has " + lines + " lines");
                return super.visitMethod(tree, name(method));
            }

            @Override
            public Void visitVariable(VariableTree tree, String in) {
                lookAtVariable(trees.getElement(getCurrentPath()));
                return super.visitVariable(tree, in);
            }

            @Override
            public Void visitMethodInvocation(MethodInvocationTree tree, String in) {
                called(in, trees.getElement(getCurrentPath()));
                return super.visitMethodInvocation(tree, in);
            }

            @Override
            public Void visitNewClass(NewClassTree tree, String in) {
                need(tree.getClassBody() == null, "an anonymous class in " + in);
                called(in, trees.getElement(getCurrentPath()));
                return super.visitNewClass(tree, in);
            }
        }.scan(unit, null);
    }

    private void lookAtClass(TypeElement type) {
        boolean inside = type.getNestingKind() != NestingKind.TOP_LEVEL;
        classesInside += inside ? 1 : 0;
        need(type.getModifiers().contains(Modifier.FINAL), type + " is not final");
        need(!inside || type.getNestingKind() == NestingKind.MEMBER && type.getModifiers().contains(Modifier.STATIC)
            && type.getModifiers().contains(Modifier.PRIVATE), type + " is not a private static class inside");
    }

    private void lookAtMethod(Element method, MethodTree tree) {
        methods.put(name(method), method);
        calls.putIfAbsent(name(method), new TreeSet<>());
        need(tree.getParameters().size() <= MOST_PARAMETERS, name(method) + " takes too many parameters");
        need(tree.getThrows().isEmpty(), name(method) + " throws");
        Set<Modifier> are = method.getModifiers();
        need(!are.contains(Modifier.NATIVE) && !are.contains(Modifier.SYNCHRONIZED), name(method));
        lookAtType(method, ((ExecutableElement) method).getReturnType().toString());
    }

    private void lookAtVariable(Element variable) {
        lookAtType(variable, variable.asType().toString());
        if (variable.getKind() == ElementKind.FIELD) {
            boolean isStatic = variable.getModifiers().contains(Modifier.STATIC);
            need(!isStatic || variable.getModifiers().contains(Modifier.FINAL), variable + " is static, not final");
            fields.merge("" + variable.getEnclosingElement(), isStatic ? 0 : 1, Integer::sum);
        }
    }

    /** Numbers, texts, own classes, and arrays of numbers or own classes of one dimension. */
    private static void lookAtType(Element of, String type) {
        String one = type.endsWith("[]") ? type.substring(0, type.length() - 2) : type;
        need(TYPES.contains(one) || one.startsWith("SkyMargins") || one.equals("void"), of + " is of type " + type);
    }

    private void called(String in, Element method) {
        boolean own = ("" + method.getEnclosingElement()).startsWith("SkyMargins");
        boolean isSuper = method.toString().equals("Object()");
        need(own || isSuper || LIBRARY.contains(name(method)), name(method) + " of the library in " + in);
        if (in != null && own) {
            calls.computeIfAbsent(in, any -> new TreeSet<>()).add(name(method));
        }
    }

    private void judge() {
        need(classesInside <= MOST_CLASSES_INSIDE, classesInside + " classes inside");
        fields.forEach((type, many) -> need(many <= MOST_FIELDS, type + " has " + many + " fields"));
        for (Map.Entry<String, Element> method : methods.entrySet()) {
            boolean recursive = reached(method.getKey()).contains(method.getKey());
            need(!recursive || method.getValue().getModifiers().contains(Modifier.PRIVATE),
                method.getKey() + " calls itself and is not private");
            if (method.getValue().getModifiers().contains(Modifier.PUBLIC)) {
                int deep = deep(method.getKey());
                need(deep <= MOST_DEEP, method.getKey() + " goes " + deep + " deep");
            }
        }
    }

    /** All that a method calls, by any steps. */
    private Set<String> reached(String method) {
        Set<String> reached = new TreeSet<>();
        Deque<String> left = new ArrayDeque<>(calls.getOrDefault(method, Set.of()));
        while (!left.isEmpty()) {
            String next = left.pop();
            if (reached.add(next)) {
                left.addAll(calls.getOrDefault(next, Set.of()));
            }
        }
        return reached;
    }

    /** How many calls stand open at most that are no recursion, from a method on, itself too. */
    private int deep(String method) {
        Integer known = depths.get(method);
        if (known != null) {
            return known;
        }
        Set<String> all = reached(method);
        boolean recursive = all.contains(method);
        int deepest = 0;
        for (String next : recursive ? all : calls.getOrDefault(method, Set.of())) {
            if (!recursive || !reached(next).contains(next)) {
                deepest = Math.max(deepest, deep(next));
            }
        }
        depths.put(method, deepest + (recursive ? 0 : 1));
        return deepest + (recursive ? 0 : 1);
    }
}
