import com.sun.source.tree.AnnotationTree;
import com.sun.source.tree.AssertTree;
import com.sun.source.tree.BinaryTree;
import com.sun.source.tree.ClassTree;
import com.sun.source.tree.CompilationUnitTree;
import com.sun.source.tree.ImportTree;
import com.sun.source.tree.LambdaExpressionTree;
import com.sun.source.tree.LiteralTree;
import com.sun.source.tree.MemberReferenceTree;
import com.sun.source.tree.MethodInvocationTree;
import com.sun.source.tree.MethodTree;
import com.sun.source.tree.NewArrayTree;
import com.sun.source.tree.NewClassTree;
import com.sun.source.tree.SynchronizedTree;
import com.sun.source.tree.ThrowTree;
import com.sun.source.tree.Tree;
import com.sun.source.tree.TryTree;
import com.sun.source.tree.TypeCastTree;
import com.sun.source.tree.VariableTree;
import com.sun.source.util.JavacTask;
import com.sun.source.util.TreePath;
import com.sun.source.util.TreePathScanner;
import com.sun.source.util.Trees;
import java.io.IOException;
import java.nio.file.Files;
import java.nio.file.Path;
import java.util.ArrayList;
import java.util.LinkedHashMap;
import java.util.LinkedHashSet;
import java.util.List;
import java.util.Map;
import java.util.Set;
import java.util.regex.Matcher;
import java.util.regex.Pattern;
import javax.lang.model.element.Element;
import javax.lang.model.element.ElementKind;
import javax.lang.model.element.ExecutableElement;
import javax.lang.model.element.Modifier;
import javax.lang.model.element.VariableElement;
import javax.lang.model.type.TypeKind;
import javax.lang.model.type.TypeMirror;
import javax.tools.JavaCompiler;
import javax.tools.StandardJavaFileManager;
import javax.tools.ToolProvider;

/**
 * The rules of shared/LANGUAGE.md (their numbers stand ahead of each fault), as far as the compiler's tree of the program
 * can tell. What it cannot tell, that every index is looked at and every loop has an end, is left to the other tests.
 * Run from the project's folder, as .ci/run does; with the name of a file it looks at that one instead.
 */
public final class LanguageTest extends TreePathScanner<Void, Void> {
    private static final Set<String> LIBRARY = Set.of(
        "String.length", "String.charAt", "String.isEmpty", "String.equals", "String.indexOf", "String.substring", "String.toCharArray",
        "StringBuilder.append", "StringBuilder.charAt", "StringBuilder.setCharAt", "StringBuilder.setLength",
        "StringBuilder.deleteCharAt", "StringBuilder.reverse", "StringBuilder.length", "StringBuilder.toString",
        "System.arraycopy", "Arrays.copyOf", "Arrays.copyOfRange", "Arrays.fill", "Array.clone");
    private static final Set<String> LISTS = Set.of("add", "get", "set", "remove", "size", "isEmpty", "clear", "of");
    private static final Set<String> IMPORTS = Set.of("java.util.Arrays", "java.util.ArrayList", "java.util.List");
    private static final int RULES = 13;
    private static final int MOST_PARAMETERS = 7, MOST_LINES = 60, MOST_DEEP = 8, MOST_CLASSES = 12, MOST_FIELDS = 20;

    private final Trees trees;
    private final CompilationUnitTree unit;
    private final List<String> faults = new ArrayList<>();
    private final Map<Element, Set<Element>> calls = new LinkedHashMap<>();
    private int classes = 0;

    private LanguageTest(Trees trees, CompilationUnitTree unit) {
        this.trees = trees;
        this.unit = unit;
    }

    private long line(Tree tree, boolean end) {
        long place = end ? trees.getSourcePositions().getEndPosition(unit, tree) : trees.getSourcePositions().getStartPosition(unit, tree);
        return unit.getLineMap().getLineNumber(place);
    }

    private void fault(int rule, Tree where, String what) {
        faults.add("rule " + rule + ", line " + line(where, false) + ": " + what);
    }

    private Void never(int rule, Tree where) {
        fault(rule, where, "there is a " + where.getKind());
        return null;
    }

    private Element element(Tree tree) {
        return trees.getElement(TreePath.getPath(unit, tree));
    }

    private TypeMirror type(Tree tree) {
        return trees.getTypeMirror(TreePath.getPath(unit, tree));
    }

    private static boolean isOwn(Element element) {
        Element top = element;
        while (top.getEnclosingElement() != null && top.getEnclosingElement().getKind() != ElementKind.PACKAGE) top = top.getEnclosingElement();
        return top.getSimpleName().contentEquals("ShakePictures");
    }

    private MethodTree method() {
        for (TreePath path = getCurrentPath(); path != null; path = path.getParentPath()) {
            if (path.getLeaf() instanceof MethodTree m) return m;
        }
        return null;
    }

    // ---- what is not to be there at all

    @Override public Void visitThrow(ThrowTree t, Void v) { return never(6, t); }
    @Override public Void visitTry(TryTree t, Void v) { return never(6, t); }
    @Override public Void visitSynchronized(SynchronizedTree t, Void v) { return never(6, t); }
    @Override public Void visitAssert(AssertTree t, Void v) { return never(6, t); }
    @Override public Void visitLambdaExpression(LambdaExpressionTree t, Void v) { return never(2, t); }
    @Override public Void visitMemberReference(MemberReferenceTree t, Void v) { return never(2, t); }
    @Override public Void visitAnnotation(AnnotationTree t, Void v) { return never(4, t); }

    @Override public Void visitImport(ImportTree t, Void v) {
        if (t.isStatic() || !IMPORTS.contains(t.getQualifiedIdentifier().toString())) fault(4, t, t.toString().trim());
        return null;
    }

    @Override public Void visitLiteral(LiteralTree t, Void v) {
        boolean real = t.getKind() == Tree.Kind.DOUBLE_LITERAL || t.getKind() == Tree.Kind.FLOAT_LITERAL;
        if (real) fault(3, t, "the program reckons without fractions, here is " + t);
        String text = String.valueOf(t.getValue());
        if (!text.chars().allMatch(c -> c >= 1 && c <= 127)) fault(4, t, "a sign that is not from 1 to 127");
        return super.visitLiteral(t, v);
    }

    @Override public Void visitBinary(BinaryTree t, Void v) {
        boolean texts = isText(t.getLeftOperand()) || isText(t.getRightOperand());
        if (texts) fault(t.getKind() == Tree.Kind.PLUS ? 10 : 6, t, "texts are joined or compared by a sign: " + t);
        return super.visitBinary(t, v);
    }

    private boolean isText(Tree t) {
        String name = String.valueOf(type(t));
        return name.equals("java.lang.String") || name.equals("java.lang.Integer");
    }

    @Override public Void visitTypeCast(TypeCastTree t, Void v) {
        if (!type(t).getKind().isPrimitive()) fault(6, t, "a cast to be looked at: " + t);
        return super.visitTypeCast(t, v);
    }

    // ---- classes, fields, variables

    @Override public Void visitClass(ClassTree t, Void v) {
        classes++;
        Set<Modifier> modifiers = t.getModifiers().getFlags();
        boolean inside = getCurrentPath().getParentPath().getLeaf() instanceof ClassTree;
        boolean top = getCurrentPath().getParentPath().getLeaf() instanceof CompilationUnitTree;
        if (!inside && !top) fault(2, t, "a class in a method");
        if (inside && !modifiers.contains(Modifier.STATIC)) fault(2, t, t.getSimpleName() + " is not static");
        if (inside && (modifiers.contains(Modifier.PUBLIC) || modifiers.contains(Modifier.PROTECTED))) fault(1, t, t.getSimpleName() + " can be seen");
        int fields = 0;
        for (Tree member : t.getMembers()) {
            if (member.getKind() == Tree.Kind.BLOCK) fault(5, member, "an initialiser block");
            if (member instanceof VariableTree f && !f.getModifiers().getFlags().contains(Modifier.STATIC)) fields++;
        }
        if (fields > MOST_FIELDS) fault(11, t, t.getSimpleName() + " has " + fields + " fields");
        return super.visitClass(t, v);
    }

    @Override public Void visitVariable(VariableTree t, Void v) {
        VariableElement it = (VariableElement) element(t);
        String name = it.asType().toString();
        boolean named = it.getKind() == ElementKind.FIELD && it.getModifiers().contains(Modifier.STATIC);
        if (named && !it.getModifiers().contains(Modifier.FINAL)) fault(5, t, t.getName() + " is static and not final");
        if (named && !name.matches("(int|long|boolean|char|java.lang.String)|(int|long|char|byte)\\[\\]")) fault(5, t, "a constant of " + name);
        boolean plain = name.matches("(int|long|short|byte|char|boolean|ShakePictures\\.\\w+)(\\[\\])?|(int|long|short|byte|char)\\[\\]\\[\\]");
        if (!plain && !name.matches("java.lang.String(Builder)?")) fault(3, t, "a type to be looked at: " + name);
        return super.visitVariable(t, v);
    }

    // ---- what a call makes: nothing

    @Override public Void visitNewClass(NewClassTree t, Void v) {
        if (t.getClassBody() != null) fault(2, t, "a class without a name");
        madeInConstructor(t);
        return super.visitNewClass(t, v);
    }

    @Override public Void visitNewArray(NewArrayTree t, Void v) {
        madeInConstructor(t);
        return super.visitNewArray(t, v);
    }

    private void madeInConstructor(Tree t) {
        MethodTree m = method();
        if (m != null && m.getReturnType() != null) fault(12, t, m.getName() + " makes something");
    }

    // ---- methods and what they call

    @Override public Void visitMethod(MethodTree t, Void v) {
        calls.computeIfAbsent(element(t), e -> new LinkedHashSet<>());
        long lines = line(t, true) - line(t, false) + 1;
        if (lines > MOST_LINES) fault(11, t, t.getName() + " has " + lines + " lines");
        if (t.getParameters().size() > MOST_PARAMETERS) fault(11, t, t.getName() + " has " + t.getParameters().size() + " parameters");
        if (!t.getThrows().isEmpty()) fault(6, t, t.getName() + " throws");
        return super.visitMethod(t, v);
    }

    @Override public Void visitMethodInvocation(MethodInvocationTree t, Void v) {
        ExecutableElement it = (ExecutableElement) element(t.getMethodSelect());
        MethodTree from = method();
        if (it.getKind() != ElementKind.CONSTRUCTOR) {
            if (!isOwn(it) && !isListed(it)) fault(4, t, "a call of " + it.getEnclosingElement() + "." + it);
            if (isOwn(it) && from != null) calls.computeIfAbsent(element(from), e -> new LinkedHashSet<>()).add(it);
        }
        return super.visitMethodInvocation(t, v);
    }

    private static boolean isListed(ExecutableElement it) {
        String owner = it.getEnclosingElement().getSimpleName().toString(), name = it.getSimpleName().toString();
        if (owner.equals("Math") || owner.equals("Integer") || owner.equals("Long")) {
            boolean whole = it.getModifiers().contains(Modifier.STATIC) && !name.endsWith("Exact") && !name.equals("random");
            for (VariableElement p : it.getParameters()) whole &= p.asType().getKind() == TypeKind.INT || p.asType().getKind() == TypeKind.LONG;
            return whole;
        }
        return LIBRARY.contains(owner + "." + name) || owner.matches("List|ArrayList") && LISTS.contains(name);
    }

    /** How many calls stand open at once from this method on, itself too. */
    private int depth(Element method, List<Element> open) {
        if (open.contains(method)) {
            faults.add("rule 8: " + open + " goes round to " + method);
            return 0;
        }
        open.add(method);
        int deepest = 0;
        for (Element next : calls.getOrDefault(method, Set.of())) deepest = Math.max(deepest, depth(next, open));
        open.remove(open.size() - 1);
        return deepest + 1;
    }

    private void names() {
        Set<String> seen = new LinkedHashSet<>();
        for (Element m : calls.keySet()) if (m.getModifiers().contains(Modifier.PUBLIC)) seen.add(m.getSimpleName().toString());
        for (Element m : calls.keySet()) {
            boolean hidden = m.getKind() == ElementKind.METHOD && !m.getModifiers().contains(Modifier.PUBLIC);
            if (hidden && seen.contains(m.getSimpleName().toString())) faults.add("rule 1: " + m + " bears the name of a public one");
        }
    }

    private int finish() {
        int deepest = 0;
        for (Element m : calls.keySet()) deepest = Math.max(deepest, depth(m, new ArrayList<>()));
        if (deepest > MOST_DEEP) faults.add("rule 11: calls go " + deepest + " deep");
        if (classes > MOST_CLASSES) faults.add("rule 11: " + classes + " classes");
        if (calls.size() < 33) faults.add("only " + calls.size() + " methods were found to look at");
        names();
        for (String fault : faults) System.out.println(fault);
        System.out.println(calls.size() + " methods in " + classes + " classes, calls " + deepest + " deep, " + faults.size() + " faults of language");
        return faults.size();
    }

    /** A rule more than these 13 would be one that nothing here looks at. */
    private static boolean hasOtherRules() throws IOException {
        Path document = Path.of("../shared/LANGUAGE.md");
        if (!Files.exists(document)) return false;
        Matcher m = Pattern.compile("(?m)^(\\d+)\\. ").matcher(Files.readString(document));
        int last = 0;
        while (m.find()) last = Integer.parseInt(m.group(1));
        if (last != RULES) System.out.println("LANGUAGE.md has " + last + " rules, this test knows " + RULES);
        return last != RULES;
    }

    public static void main(String[] args) throws IOException {
        Path file = Path.of(args.length > 0 ? args[0] : "src/main/java/ShakePictures.java");
        JavaCompiler compiler = ToolProvider.getSystemJavaCompiler();
        int found = 0;
        try (StandardJavaFileManager files = compiler.getStandardFileManager(null, null, null)) {
            JavacTask task = (JavacTask) compiler.getTask(null, files, null, List.of("-proc:none"), null, files.getJavaFileObjects(file));
            CompilationUnitTree unit = task.parse().iterator().next();
            task.analyze();
            LanguageTest test = new LanguageTest(Trees.instance(task), unit);
            if (unit.getPackage() != null) test.fault(1, unit, "a package line");
            test.scan(unit, null);
            found = test.finish();
        }
        if (hasOtherRules() || found != 0) System.exit(1);
    }
}
