import com.sun.source.tree.BinaryTree;
import com.sun.source.tree.ClassTree;
import com.sun.source.tree.CompilationUnitTree;
import com.sun.source.tree.ExpressionTree;
import com.sun.source.tree.MethodInvocationTree;
import com.sun.source.tree.MethodTree;
import com.sun.source.tree.NewClassTree;
import com.sun.source.tree.Tree;
import com.sun.source.tree.VariableTree;
import com.sun.source.util.JavacTask;
import com.sun.source.util.TreePath;
import com.sun.source.util.TreeScanner;
import com.sun.source.util.Trees;
import java.io.IOException;
import java.net.URI;
import java.util.ArrayList;
import java.util.LinkedHashMap;
import java.util.List;
import java.util.Map;
import java.util.Set;
import javax.lang.model.element.Element;
import javax.lang.model.element.Modifier;
import javax.lang.model.element.VariableElement;
import javax.lang.model.type.TypeMirror;
import javax.tools.JavaFileObject;
import javax.tools.SimpleJavaFileObject;
import javax.tools.ToolProvider;

/** A Java text as the compiler reads it: what RuleTests asks about the class. */
final class SourceTree {
    private final CompilationUnitTree unit;
    private final Trees trees;

    private SourceTree(String text, boolean withTypes) {
        JavaFileObject file = new SimpleJavaFileObject(URI.create("string:///FerryRounds.java"),
                JavaFileObject.Kind.SOURCE) {
            @Override
            public CharSequence getCharContent(boolean ignoreErrors) {
                return text;
            }
        };
        JavacTask task = (JavacTask) ToolProvider.getSystemJavaCompiler()
                .getTask(null, null, null, List.of("-proc:none"), null, List.of(file));
        try {
            unit = task.parse().iterator().next();
            if (withTypes) {
                task.analyze();
            }
        } catch (IOException e) {
            throw new IllegalStateException(e);
        }
        trees = Trees.instance(task);
    }

    static SourceTree withTypes(String text) {
        return new SourceTree(text, true);
    }

    // For the document's face, whose methods have no bodies.
    static SourceTree withoutTypes(String text) {
        return new SourceTree(text, false);
    }

    // ---- trees

    CompilationUnitTree unit() {
        return unit;
    }

    ClassTree outer() {
        return (ClassTree) unit.getTypeDecls().get(0);
    }

    List<ClassTree> classes() {
        return all(unit, ClassTree.class);
    }

    List<MethodTree> methods() {
        return all(unit, MethodTree.class);
    }

    static <T extends Tree> List<T> all(Tree root, Class<T> kind) {
        List<T> found = new ArrayList<>();
        new TreeScanner<Void, Void>() {
            @Override
            public Void scan(Tree tree, Void none) {
                if (kind.isInstance(tree)) {
                    found.add(kind.cast(tree));
                }
                return super.scan(tree, none);
            }
        }.scan(root, null);
        return found;
    }

    static List<VariableTree> fieldsOf(ClassTree owner, boolean isStatic) {
        List<VariableTree> fields = new ArrayList<>();
        for (Tree member : owner.getMembers()) {
            if (member instanceof VariableTree && flagsOf(member).contains(Modifier.STATIC) == isStatic) {
                fields.add((VariableTree) member);
            }
        }
        return fields;
    }

    // An initialiser has none.
    static Set<Modifier> flagsOf(Tree member) {
        if (member instanceof VariableTree) {
            return ((VariableTree) member).getModifiers().getFlags();
        }
        if (member instanceof MethodTree) {
            return ((MethodTree) member).getModifiers().getFlags();
        }
        return member instanceof ClassTree ? ((ClassTree) member).getModifiers().getFlags() : Set.of();
    }

    // The comparisons of which each has to hold for the condition to hold.
    static List<BinaryTree> comparisons(ExpressionTree condition) {
        List<BinaryTree> found = new ArrayList<>();
        if (condition == null) {
            return found;
        }
        switch (condition.getKind()) {
            case CONDITIONAL_AND:
                found.addAll(comparisons(((BinaryTree) condition).getLeftOperand()));
                found.addAll(comparisons(((BinaryTree) condition).getRightOperand()));
                break;
            case LESS_THAN: case LESS_THAN_EQUAL: case GREATER_THAN: case GREATER_THAN_EQUAL:
                found.add((BinaryTree) condition);
                break;
            default:
                break;
        }
        return found;
    }

    // ---- what a tree means

    Element element(Tree tree) {
        return trees.getElement(TreePath.getPath(unit, tree));
    }

    TypeMirror type(Tree tree) {
        return trees.getTypeMirror(TreePath.getPath(unit, tree));
    }

    boolean isConstant(ExpressionTree expression) {
        if (expression.getKind() == Tree.Kind.INT_LITERAL) {
            return true;
        }
        Element element = element(expression);
        return element instanceof VariableElement && ((VariableElement) element).getConstantValue() != null;
    }

    long lines(Tree tree) {
        long start = trees.getSourcePositions().getStartPosition(unit, tree);
        long end = trees.getSourcePositions().getEndPosition(unit, tree);
        return unit.getLineMap().getLineNumber(end) - unit.getLineMap().getLineNumber(start) + 1;
    }

    // ---- the face: public constants, the constructor and the methods, in their order

    List<String> face() {
        List<String> face = new ArrayList<>();
        for (Tree member : outer().getMembers()) {
            if (flagsOf(member).contains(Modifier.PUBLIC)) {
                face.add(flagsOf(member) + " " + signatureOf(member));
            }
        }
        return face;
    }

    private static String signatureOf(Tree member) {
        if (member instanceof VariableTree) {
            VariableTree field = (VariableTree) member;
            return field.getType() + " " + field.getName() + " = " + field.getInitializer();
        }
        if (!(member instanceof MethodTree)) {
            return member.toString();
        }
        MethodTree method = (MethodTree) member;
        List<String> parameters = new ArrayList<>();
        for (VariableTree parameter : method.getParameters()) {
            parameters.add(parameter.getType() + " " + parameter.getName());
        }
        return method.getReturnType() + " " + method.getName() + parameters + " throws " + method.getThrows();
    }

    // ---- calls

    // For each method and constructor of the text, those of them that it calls.
    Map<Element, List<Element>> calls() {
        Map<Element, List<Element>> calls = new LinkedHashMap<>();
        for (MethodTree method : methods()) {
            calls.put(element(method), new ArrayList<>());
        }
        for (MethodTree method : methods()) {
            for (Element called : calledBy(method)) {
                if (calls.containsKey(called)) {
                    calls.get(element(method)).add(called);
                }
            }
        }
        return calls;
    }

    List<Element> calledBy(MethodTree method) {
        List<Element> called = new ArrayList<>();
        for (MethodInvocationTree call : all(method, MethodInvocationTree.class)) {
            called.add(element(call.getMethodSelect()));
        }
        for (NewClassTree made : all(method, NewClassTree.class)) {
            called.add(element(made));
        }
        return called;
    }
}
