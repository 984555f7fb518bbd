import com.sun.source.tree.ArrayAccessTree;
import com.sun.source.tree.AssignmentTree;
import com.sun.source.tree.BinaryTree;
import com.sun.source.tree.ClassTree;
import com.sun.source.tree.CompoundAssignmentTree;
import com.sun.source.tree.ForLoopTree;
import com.sun.source.tree.IdentifierTree;
import com.sun.source.tree.LiteralTree;
import com.sun.source.tree.MemberSelectTree;
import com.sun.source.tree.MethodInvocationTree;
import com.sun.source.tree.MethodTree;
import com.sun.source.tree.NewArrayTree;
import com.sun.source.tree.NewClassTree;
import com.sun.source.tree.PrimitiveTypeTree;
import com.sun.source.tree.StatementTree;
import com.sun.source.tree.Tree;
import com.sun.source.tree.TypeCastTree;
import com.sun.source.tree.UnaryTree;
import com.sun.source.tree.VariableTree;
import java.io.IOException;
import java.lang.reflect.Array;
import java.lang.reflect.Field;
import java.nio.charset.StandardCharsets;
import java.nio.file.Files;
import java.nio.file.Path;
import java.util.ArrayList;
import java.util.List;
import java.util.Map;
import java.util.Set;
import java.util.TreeSet;
import java.util.regex.Matcher;
import java.util.regex.Pattern;
import javax.lang.model.element.Element;
import javax.lang.model.element.ElementKind;
import javax.lang.model.element.Modifier;
import javax.lang.model.element.TypeElement;
import javax.lang.model.element.VariableElement;
import javax.lang.model.type.TypeKind;

/** The document's public face, and each rule of LANGUAGE.md, on the class as the compiler reads it. */
public final class RuleTests extends Checks {
    private static final int MOST_CLASSES = 12;
    private static final int MOST_FIELDS = 20;
    private static final int MOST_LINES = 60;
    private static final int MOST_PARAMETERS = 7;
    private static final int MOST_DEPTH = 8;
    private static final long MOST_CALLS = 512;
    private static final long ROOM_OBJECTS = 600_000;
    private static final long ROOM_CELLS = 7_300_000;

    // What the class takes of the language and of the library. The rules allow more: one who needs more
    // looks it up there, and adds it here.
    private static final Set<Tree.Kind> KINDS = Set.of(Tree.Kind.COMPILATION_UNIT, Tree.Kind.CLASS,
            Tree.Kind.MODIFIERS, Tree.Kind.METHOD, Tree.Kind.VARIABLE, Tree.Kind.PRIMITIVE_TYPE,
            Tree.Kind.ARRAY_TYPE, Tree.Kind.BLOCK, Tree.Kind.EXPRESSION_STATEMENT, Tree.Kind.IF, Tree.Kind.RETURN,
            Tree.Kind.FOR_LOOP, Tree.Kind.SWITCH, Tree.Kind.CASE, Tree.Kind.IDENTIFIER, Tree.Kind.MEMBER_SELECT,
            Tree.Kind.METHOD_INVOCATION, Tree.Kind.NEW_CLASS, Tree.Kind.NEW_ARRAY, Tree.Kind.ARRAY_ACCESS,
            Tree.Kind.PARENTHESIZED, Tree.Kind.TYPE_CAST, Tree.Kind.CONDITIONAL_EXPRESSION, Tree.Kind.ASSIGNMENT,
            Tree.Kind.INT_LITERAL, Tree.Kind.CHAR_LITERAL, Tree.Kind.FLOAT_LITERAL, Tree.Kind.BOOLEAN_LITERAL,
            Tree.Kind.NULL_LITERAL);
    private static final Set<String> LIBRARY = Set.of("Object.<init>", "Integer.bitCount", "Math.abs", "Math.max",
            "Math.min");
    private static final Set<TypeKind> NUMBERS = Set.of(TypeKind.INT, TypeKind.BOOLEAN, TypeKind.FLOAT,
            TypeKind.VOID);

    private final String text;
    private final String document;
    private final SourceTree source;

    private RuleTests(String text, String document) {
        this.text = text;
        this.document = document;
        source = SourceTree.withTypes(text);
    }

    private static void dueNone(String name, TreeSet<String> found) {
        due(name, found.toString(), "[]");
    }

    // ---- the document's face

    private void face() {
        Matcher block = Pattern.compile("```java\n(.*?)```", Pattern.DOTALL).matcher(document);
        due("the document's face is found", block.find() ? 1 : 0, 1);
        SourceTree face = SourceTree.withoutTypes(block.group(1));
        due("its members", face.face().size() > 5 ? 1 : 0, 1);
        due("the class", SourceTree.flagsOf(source.outer()) + " " + source.outer().getSimpleName(),
                SourceTree.flagsOf(face.outer()) + " " + face.outer().getSimpleName());
        due("the public members", String.join("\n", source.face()), String.join("\n", face.face()));
    }

    // The public methods below a heading of the source, as the document tells them.
    private void headings() {
        Matcher told = Pattern.compile("Ahead of the calls (.*?) the interface says: (---- .*?)\\.\n")
                .matcher(document);
        int found = 0;
        while (told.find()) {
            found++;
            due("the calls behind " + told.group(2), callsBehind("// " + told.group(2)),
                    told.group(1).replace("`", ""));
        }
        due("headings", found, 6);
    }

    private String callsBehind(String heading) {
        List<String> calls = new ArrayList<>();
        boolean isBehind = false;
        for (String line : text.split("\n")) {
            if (line.trim().startsWith("// ----")) {
                isBehind = line.trim().equals(heading);
            }
            Matcher call = Pattern.compile("    public int (\\w+)\\(.*").matcher(line);
            if (isBehind && call.matches()) {
                calls.add(call.group(1));
            }
        }
        return String.join(", ", calls);
    }

    // ---- rules 1 and 2

    private void rule1() {
        TreeSet<String> wrong = new TreeSet<>();
        Set<Modifier> seen = Set.of(Modifier.PUBLIC, Modifier.PRIVATE);
        for (Tree member : source.outer().getMembers()) {
            if (!(member instanceof ClassTree) && SourceTree.flagsOf(member).stream().noneMatch(seen::contains)) {
                wrong.add("" + member);
            }
        }
        dueNone("members neither public nor private", wrong);
        due("package", "" + source.unit().getPackage(), "null");
        due("imports", source.unit().getImports().size(), 0);
        due("classes of the file", source.unit().getTypeDecls().size(), 1);
    }

    private void rule1Names() {
        TreeSet<String> names = new TreeSet<>();
        TreeSet<String> wrong = new TreeSet<>();
        for (Tree member : source.outer().getMembers()) {
            if (member instanceof MethodTree && SourceTree.flagsOf(member).contains(Modifier.PUBLIC)) {
                names.add("" + ((MethodTree) member).getName());
            }
        }
        names.remove("<init>");
        due("public names", names.size(), 32);
        for (MethodTree method : source.methods()) {
            if (!SourceTree.flagsOf(method).contains(Modifier.PUBLIC) && names.contains("" + method.getName())) {
                wrong.add("" + method.getName());
            }
        }
        dueNone("names that public ones have, too", wrong);
    }

    private void rule2() {
        TreeSet<String> wrong = new TreeSet<>();
        for (ClassTree inner : source.classes()) {
            Set<Modifier> flags = SourceTree.flagsOf(inner);
            if (inner != source.outer() && (!flags.contains(Modifier.STATIC) || flags.contains(Modifier.PUBLIC)
                    || flags.contains(Modifier.PROTECTED))) {
                wrong.add("" + inner.getSimpleName());
            }
            if (inner.getExtendsClause() != null || !inner.getImplementsClause().isEmpty()
                    || !inner.getTypeParameters().isEmpty()) {
                wrong.add("the head of " + inner.getSimpleName());
            }
        }
        dueNone("classes inside", wrong);
    }

    // ---- rules 3 to 5

    private void rule3() {
        TreeSet<String> wrong = new TreeSet<>();
        for (PrimitiveTypeTree type : SourceTree.all(source.unit(), PrimitiveTypeTree.class)) {
            if (!NUMBERS.contains(type.getPrimitiveTypeKind())) {
                wrong.add("" + type);
            }
        }
        for (TypeCastTree cast : SourceTree.all(source.unit(), TypeCastTree.class)) {
            if (!(cast.getType() instanceof PrimitiveTypeTree)) {
                wrong.add("" + cast);
            }
        }
        for (IdentifierTree name : SourceTree.all(source.unit(), IdentifierTree.class)) {
            Element element = source.element(name);
            if (element instanceof TypeElement && !isOwn(element) && !"Integer Math".contains(name.getName())) {
                wrong.add("" + name);
            }
        }
        dueNone("types", wrong);
    }

    private boolean isOwn(Element element) {
        for (ClassTree own : source.classes()) {
            if (source.element(own) == element) {
                return true;
            }
        }
        return false;
    }

    private void rule4() {
        TreeSet<String> wrong = new TreeSet<>();
        for (MethodTree method : source.methods()) {
            for (Element called : source.calledBy(method)) {
                if (!isOwn(called.getEnclosingElement())) {
                    wrong.add(called.getEnclosingElement().getSimpleName() + "." + called.getSimpleName());
                }
            }
        }
        wrong.removeAll(LIBRARY);
        dueNone("library", wrong);
        due("signs", text.chars().allMatch(c -> c == '\n' || c >= 32 && c < 127) ? 1 : 0, 1);
    }

    private void rule5() {
        TreeSet<String> wrong = new TreeSet<>();
        for (ClassTree owner : source.classes()) {
            for (VariableTree field : SourceTree.fieldsOf(owner, true)) {
                if (((VariableElement) source.element(field)).getConstantValue() == null) {
                    wrong.add("" + field);
                }
            }
            for (Tree member : owner.getMembers()) {
                if (member.getKind() == Tree.Kind.BLOCK) {
                    wrong.add("an initialiser of " + owner.getSimpleName());
                }
            }
        }
        dueNone("static fields that are no constants", wrong);
    }

    // ---- rules 6 and 10: no exceptions, no lambdas, no joined texts

    private void rules6And10() {
        TreeSet<String> wrong = new TreeSet<>();
        for (Tree tree : SourceTree.all(source.unit(), Tree.class)) {
            boolean isSum = tree instanceof BinaryTree || tree instanceof UnaryTree
                    || tree instanceof CompoundAssignmentTree;
            if (!isSum && !KINDS.contains(tree.getKind())) {
                wrong.add(tree.getKind() + ": " + tree);
            }
            if (tree instanceof LiteralTree && ((LiteralTree) tree).getValue() instanceof String) {
                wrong.add("" + tree);
            }
        }
        dueNone("parts of the language", wrong);
    }

    // ---- rule 7: what the machine could throw at

    private void rule7Indexes() {
        TreeSet<String> wrong = new TreeSet<>();
        int found = 0;
        for (MethodTree method : source.methods()) {
            TreeSet<String> asked = new TreeSet<>();
            for (MemberSelectTree select : SourceTree.all(method, MemberSelectTree.class)) {
                if (select.getIdentifier().contentEquals("length")) {
                    asked.add("" + select.getExpression());
                }
            }
            for (ArrayAccessTree access : SourceTree.all(method, ArrayAccessTree.class)) {
                found++;
                if (!asked.contains("" + access.getExpression())) {
                    wrong.add(method.getName() + ": " + access);
                }
            }
        }
        dueNone("indexes of an array whose length is not asked", wrong);
        due("indexes are found", found > 0 ? 1 : 0, 1);
    }

    private void rule7Divisors() {
        TreeSet<String> wrong = new TreeSet<>();
        int found = 0;
        for (BinaryTree division : SourceTree.all(source.unit(), BinaryTree.class)) {
            boolean divides = division.getKind() == Tree.Kind.DIVIDE || division.getKind() == Tree.Kind.REMAINDER;
            if (divides && source.type(division).getKind() != TypeKind.FLOAT) {
                found++;
                if (!source.isConstant(division.getRightOperand()) || isNought(division.getRightOperand())) {
                    wrong.add("" + division);
                }
            }
        }
        for (CompoundAssignmentTree division : SourceTree.all(source.unit(), CompoundAssignmentTree.class)) {
            if (division.getKind() == Tree.Kind.DIVIDE_ASSIGNMENT
                    || division.getKind() == Tree.Kind.REMAINDER_ASSIGNMENT) {
                wrong.add("" + division);
            }
        }
        dueNone("divisors that are no constants", wrong);
        due("divisions are found", found > 0 ? 1 : 0, 1);
    }

    private static boolean isNought(Tree divisor) {
        return divisor.toString().equals("0");
    }

    // Parameters that are objects may be null; those of fields come from constructors.
    private void rule7References() {
        TreeSet<String> wrong = new TreeSet<>();
        for (MethodTree method : source.methods()) {
            for (VariableTree parameter : method.getParameters()) {
                String name = "" + parameter.getName();
                boolean isUsed = false;
                for (MemberSelectTree select : SourceTree.all(method, MemberSelectTree.class)) {
                    isUsed |= select.getExpression().toString().equals(name);
                }
                if (isUsed && !isAskedForNull(method, name) && !isAskedByCallers(method)) {
                    wrong.add(method.getName() + ": " + name);
                }
            }
        }
        dueNone("references that are not looked at", wrong);
        for (ClassTree owner : source.classes()) {
            for (VariableTree field : SourceTree.fieldsOf(owner, false)) {
                if (!source.type(field).getKind().isPrimitive() && !SourceTree.flagsOf(field).contains(Modifier.FINAL)) {
                    wrong.add("" + field);
                }
            }
        }
        dueNone("objects in fields that are not final", wrong);
    }

    private static boolean isAskedForNull(MethodTree method, String name) {
        for (BinaryTree asked : SourceTree.all(method, BinaryTree.class)) {
            boolean compares = asked.getKind() == Tree.Kind.EQUAL_TO || asked.getKind() == Tree.Kind.NOT_EQUAL_TO;
            if (compares && asked.getLeftOperand().toString().equals(name)
                    && asked.getRightOperand().getKind() == Tree.Kind.NULL_LITERAL) {
                return true;
            }
        }
        return false;
    }

    // A private method whose callers have all looked at what they hand on, or got it themselves.
    private boolean isAskedByCallers(MethodTree method) {
        Element asked = source.element(method);
        boolean isPrivate = SourceTree.flagsOf(method).contains(Modifier.PRIVATE);
        int callers = 0;
        for (MethodTree caller : source.methods()) {
            if (caller != method && source.calledBy(caller).contains(asked)) {
                callers++;
                for (VariableTree parameter : caller.getParameters()) {
                    boolean isObject = !source.type(parameter).getKind().isPrimitive();
                    if (isObject && !isAskedForNull(caller, "" + parameter.getName()) && !isAskedByCallers(caller)) {
                        return false;
                    }
                }
            }
        }
        return isPrivate && callers > 0;
    }

    // ---- rules 8 and 11: how deep calls go

    private void rule8() {
        Map<Element, List<Element>> calls = source.calls();
        TreeSet<String> wrong = new TreeSet<>();
        for (Element method : calls.keySet()) {
            if (reaches(calls, method, method, new ArrayList<>())) {
                wrong.add("" + method);
            }
        }
        dueNone("methods that call themselves", wrong);
    }

    private static boolean reaches(Map<Element, List<Element>> calls, Element from, Element to, List<Element> seen) {
        for (Element called : calls.get(from)) {
            if (called == to) {
                return true;
            }
            if (!seen.contains(called)) {
                seen.add(called);
                if (reaches(calls, called, to, seen)) {
                    return true;
                }
            }
        }
        return false;
    }

    private void rule11Depth() {
        Map<Element, List<Element>> calls = source.calls();
        int deepest = 0;
        for (Element method : calls.keySet()) {
            int depth = depth(calls, method, 0);
            deepest = Math.max(deepest, depth);
            if (depth > MOST_DEPTH) {
                due("the depth of calls from " + method, depth, MOST_DEPTH);
            }
        }
        due("calls are found", deepest > 2 ? 1 : 0, 1);
    }

    private static int depth(Map<Element, List<Element>> calls, Element method, int above) {
        int below = 0;
        for (Element called : above > MOST_DEPTH ? List.<Element>of() : calls.get(method)) {
            below = Math.max(below, depth(calls, called, above + 1));
        }
        return below + 1;
    }

    // ---- rule 9

    private void rule9() {
        TreeSet<String> wrong = new TreeSet<>();
        List<ForLoopTree> loops = SourceTree.all(source.unit(), ForLoopTree.class);
        for (ForLoopTree loop : loops) {
            if (!hasACounter(loop)) {
                wrong.add("" + loop);
            }
        }
        dueNone("loops without a counter against a bound", wrong);
        due("loops are found", loops.size() > 10 ? 1 : 0, 1);
    }

    // It begins in the loop's line, is compared there, goes one on there, and is not set elsewhere.
    private static boolean hasACounter(ForLoopTree loop) {
        if (loop.getInitializer().size() != 1 || loop.getUpdate().size() != 1
                || !(loop.getInitializer().get(0) instanceof VariableTree)) {
            return false;
        }
        String counter = "" + ((VariableTree) loop.getInitializer().get(0)).getName();
        String update = loop.getUpdate().get(0).toString().replace(";", "");
        for (BinaryTree bound : SourceTree.comparisons(loop.getCondition())) {
            boolean up = update.equals(counter + "++")
                    && (bound.getKind() == Tree.Kind.LESS_THAN || bound.getKind() == Tree.Kind.LESS_THAN_EQUAL);
            boolean down = update.equals(counter + "--")
                    && (bound.getKind() == Tree.Kind.GREATER_THAN || bound.getKind() == Tree.Kind.GREATER_THAN_EQUAL);
            String front = leftmost(bound.getLeftOperand());
            if ((up || down) && front.equals(counter)) {
                return !isSetIn(loop.getStatement(), counter);
            }
        }
        return false;
    }

    private static String leftmost(Tree operand) {
        return operand instanceof BinaryTree ? leftmost(((BinaryTree) operand).getLeftOperand()) : "" + operand;
    }

    private static boolean isSetIn(StatementTree body, String counter) {
        TreeSet<String> set = new TreeSet<>();
        for (AssignmentTree tree : SourceTree.all(body, AssignmentTree.class)) {
            set.add("" + tree.getVariable());
        }
        for (CompoundAssignmentTree tree : SourceTree.all(body, CompoundAssignmentTree.class)) {
            set.add("" + tree.getVariable());
        }
        for (UnaryTree tree : SourceTree.all(body, UnaryTree.class)) {
            if (tree.toString().contains("++") || tree.toString().contains("--")) {
                set.add("" + tree.getExpression());
            }
        }
        return set.contains(counter);
    }

    // ---- rules 11 and 12: sizes, and what is made

    private void rule11Sizes() {
        TreeSet<String> wrong = new TreeSet<>();
        for (MethodTree method : source.methods()) {
            if (method.getParameters().size() > MOST_PARAMETERS || source.lines(method) > MOST_LINES) {
                wrong.add("" + method.getName());
            }
        }
        for (ClassTree owner : source.classes()) {
            if (SourceTree.fieldsOf(owner, false).size() > MOST_FIELDS) {
                wrong.add("" + owner.getSimpleName());
            }
        }
        dueNone("methods and classes that are too large", wrong);
        int classes = source.classes().size();
        due("classes, no more than 12", classes > MOST_CLASSES ? classes : MOST_CLASSES, MOST_CLASSES);
    }

    private void rule12() {
        TreeSet<String> wrong = new TreeSet<>();
        for (MethodTree method : source.methods()) {
            boolean isConstructor = source.element(method).getKind() == ElementKind.CONSTRUCTOR;
            boolean makes = !SourceTree.all(method, NewClassTree.class).isEmpty()
                    || !SourceTree.all(method, NewArrayTree.class).isEmpty();
            if (makes && !isConstructor) {
                wrong.add(method.getName() + " makes objects");
            }
            for (MethodInvocationTree call : SourceTree.all(method, MethodInvocationTree.class)) {
                if (isConstructor && !call.toString().equals("super()")) {
                    wrong.add(source.element(method).getEnclosingElement() + "() calls " + call);
                }
            }
        }
        dueNone("objects are made by constructors alone, and these call nothing else", wrong);
    }

    // Even if each call of a run made a river of its own, the room would hold them all.
    private void room() {
        List<Object> made = new ArrayList<>();
        made.add(new FerryRounds());
        long cells = 0;
        for (int next = 0; next < made.size(); next++) {
            for (Object held : heldBy(made.get(next))) {
                cells++;
                if (held != null && !(held instanceof Number) && !(held instanceof Boolean)
                        && made.stream().noneMatch(one -> one == held)) {
                    made.add(held);
                }
            }
        }
        due("objects of 512 rivers, no more than fit", made.size() * MOST_CALLS > ROOM_OBJECTS ? made.size() : 0, 0);
        due("cells of 512 rivers, no more than fit", cells * MOST_CALLS > ROOM_CELLS ? cells : 0, 0);
        due("objects are found", made.size() > 10 ? 1 : 0, 1);
    }

    private static List<Object> heldBy(Object holder) {
        List<Object> held = new ArrayList<>();
        if (holder.getClass().isArray()) {
            for (int index = 0; index < Array.getLength(holder); index++) {
                held.add(Array.get(holder, index));
            }
            return held;
        }
        for (Field field : holder.getClass().getDeclaredFields()) {
            if (!java.lang.reflect.Modifier.isStatic(field.getModifiers())) {
                field.setAccessible(true);
                try {
                    held.add(field.get(holder));
                } catch (IllegalAccessException e) {
                    throw new IllegalStateException(e);
                }
            }
        }
        return held;
    }

    private static String read(String path) throws IOException {
        return new String(Files.readAllBytes(Path.of(path)), StandardCharsets.UTF_8);
    }

    public static void main(String[] args) throws IOException {
        RuleTests tests = new RuleTests(read("src/main/java/FerryRounds.java"), read("../shared/DOC.md"));
        run("the public face is the document's", tests::face);
        run("the headings are the document's", tests::headings);
        run("rule 1: no other member", tests::rule1);
        run("rule 1: no name twice", tests::rule1Names);
        run("rule 2: classes inside", tests::rule2);
        run("rules 3 and 13: types", tests::rule3);
        run("rules 4 and 13: library", tests::rule4);
        run("rule 5: static fields", tests::rule5);
        run("rules 6 and 10: parts of the language", tests::rules6And10);
        run("rule 7: indexes", tests::rule7Indexes);
        run("rule 7: divisors", tests::rule7Divisors);
        run("rule 7: references", tests::rule7References);
        run("rule 8: no recursion", tests::rule8);
        run("rule 9: the end of loops", tests::rule9);
        run("rule 11: how deep calls go", tests::rule11Depth);
        run("rule 11: sizes", tests::rule11Sizes);
        run("rule 12: what is made", tests::rule12);
        run("the room", tests::room);
        end();
    }
}
