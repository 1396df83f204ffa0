import com.sun.source.tree.ArrayAccessTree;
import com.sun.source.tree.AssignmentTree;
import com.sun.source.tree.BinaryTree;
import com.sun.source.tree.CompilationUnitTree;
import com.sun.source.tree.CompoundAssignmentTree;
import com.sun.source.tree.ExpressionTree;
import com.sun.source.tree.ForLoopTree;
import com.sun.source.tree.MethodInvocationTree;
import com.sun.source.tree.MethodTree;
import com.sun.source.tree.NewArrayTree;
import com.sun.source.tree.NewClassTree;
import com.sun.source.tree.Tree;
import com.sun.source.tree.UnaryTree;
import com.sun.source.util.JavacTask;
import com.sun.source.util.TreePath;
import com.sun.source.util.TreePathScanner;
import com.sun.source.util.Trees;
import java.io.IOException;
import java.nio.file.Path;
import java.util.ArrayList;
import java.util.List;
import java.util.Map;
import java.util.Set;
import java.util.TreeMap;
import java.util.TreeSet;
import javax.lang.model.element.Element;
import javax.lang.model.element.ElementKind;
import javax.lang.model.element.ExecutableElement;
import javax.lang.model.element.Modifier;
import javax.lang.model.element.VariableElement;
import javax.tools.JavaCompiler;
import javax.tools.StandardJavaFileManager;
import javax.tools.ToolProvider;

/** The class's source as the compiler reads it: who calls whom, what divides, indexes, loops and makes. */
final class ParsedSource extends TreePathScanner<Void, Void> {
    /** Calls may go so deep. */
    static final int DEEP = 8;

    /** Own methods by name and class, with the own methods that each calls. */
    final Map<String, Set<String>> calls = new TreeMap<>();
    final Set<String> publicMethods = new TreeSet<>();
    final Set<String> libraryCalls = new TreeSet<>();
    final List<String> faults = new ArrayList<>();
    private final Trees trees;
    private CompilationUnitTree unit;

    ParsedSource(Path source) throws IOException {
        JavaCompiler compiler = ToolProvider.getSystemJavaCompiler();
        try (StandardJavaFileManager files = compiler.getStandardFileManager(null, null, null)) {
            List<String> options = List.of("--release", "17", "-proc:none");
            JavacTask task = (JavacTask) compiler.getTask(null, files, null, options, null, files.getJavaFileObjects(source));
            trees = Trees.instance(task);
            Iterable<? extends CompilationUnitTree> units = task.parse();
            task.analyze();
            for (CompilationUnitTree one : units) {
                unit = one;
                scan(one, null);
            }
        }
    }

    private void fault(Tree at, String what) {
        long line = unit.getLineMap().getLineNumber(trees.getSourcePositions().getStartPosition(unit, at));
        faults.add("line " + line + ": " + what + ": " + at);
    }

    private Element elementOf(Tree tree) {
        return trees.getElement(new TreePath(getCurrentPath(), tree));
    }

    private MethodTree methodAround() {
        for (TreePath at = getCurrentPath(); at != null; at = at.getParentPath()) {
            if (at.getLeaf() instanceof MethodTree method) return method;
        }
        return null;
    }

    private static String nameOf(Element method) {
        return method.getEnclosingElement().getSimpleName() + "." + method.getSimpleName();
    }

    private static boolean isOwn(Element element) {
        for (Element at = element; at != null; at = at.getEnclosingElement()) {
            if (at.getSimpleName().contentEquals("FrostDebts")) return true;
        }
        return false;
    }

    @Override
    public Void visitMethod(MethodTree method, Void none) {
        Element element = trees.getElement(getCurrentPath());
        if (calls.put(nameOf(element), new TreeSet<>()) != null) fault(method, "two methods of one name");
        if (element.getModifiers().contains(Modifier.PUBLIC)) publicMethods.add(nameOf(element));
        return super.visitMethod(method, none);
    }

    @Override
    public Void visitMethodInvocation(MethodInvocationTree call, Void none) {
        Element called = elementOf(call.getMethodSelect());
        MethodTree around = methodAround();
        if (called instanceof ExecutableElement && called.getKind() == ElementKind.METHOD) {
            if (!isOwn(called)) {
                libraryCalls.add(nameOf(called));
            } else if (around != null) {
                Element caller = trees.getElement(trees.getPath(unit, around));
                calls.get(nameOf(caller)).add(nameOf(called));
            } else {
                fault(call, "a field's first value calls");
            }
        }
        return super.visitMethodInvocation(call, none);
    }

    private void lookAtDivisor(ExpressionTree divisor) {
        String told = divisor.toString();
        if (told.matches("[1-9]\\d*L?")) return;
        if (elementOf(divisor) instanceof VariableElement constant && constant.getConstantValue() instanceof Number number
                && constant.getModifiers().contains(Modifier.STATIC) && number.longValue() > 0) {
            return;
        }
        fault(divisor, "a divisor that is no constant");
    }

    @Override
    public Void visitBinary(BinaryTree tree, Void none) {
        if (tree.getKind() == Tree.Kind.DIVIDE || tree.getKind() == Tree.Kind.REMAINDER) lookAtDivisor(tree.getRightOperand());
        return super.visitBinary(tree, none);
    }

    @Override
    public Void visitCompoundAssignment(CompoundAssignmentTree tree, Void none) {
        if (tree.getKind() == Tree.Kind.DIVIDE_ASSIGNMENT || tree.getKind() == Tree.Kind.REMAINDER_ASSIGNMENT) {
            lookAtDivisor(tree.getExpression());
        }
        return super.visitCompoundAssignment(tree, none);
    }

    /** An index is a figure, or stands behind a test of it in the same method. */
    @Override
    public Void visitArrayAccess(ArrayAccessTree access, Void none) {
        String index = access.getIndex().toString();
        MethodTree around = methodAround();
        if (around == null) {
            fault(access, "an index outside a method");
        } else if (!index.matches("\\d")) {
            String body = around.getBody().toString();
            int at = body.indexOf(access.toString());
            int tested = body.indexOf("isBelow(" + index + ", ");
            if (tested < 0) tested = body.indexOf(index + " >= 0 && " + index + " < ");
            if (tested < 0 || tested > at) fault(access, "an index that is not tested");
        }
        return super.visitArrayAccess(access, none);
    }

    /** A loop counts a number up by itself, to a bound that stands in it, and sets it nowhere else. */
    @Override
    public Void visitForLoop(ForLoopTree loop, Void none) {
        String counter = loop.getInitializer().toString().replaceAll("^int (\\w+) = .*$", "$1");
        boolean isBound = loop.getCondition() != null
            && loop.getCondition().toString().matches(".*\\b" + counter + "( \\+ 2)? < .*");
        boolean isCounting = loop.getUpdate().toString().matches(counter + "(\\+\\+| \\+= 3);?");
        if (!isBound || !isCounting) fault(loop.getCondition(), "a loop that does not count");
        lookForSetting(loop.getStatement(), counter);
        return super.visitForLoop(loop, none);
    }

    private void lookForSetting(Tree body, String counter) {
        new TreePathScanner<Void, Void>() {
            private void look(Tree tree, Tree variable) {
                if (variable.toString().equals(counter)) fault(tree, "a counter set within its loop");
            }

            @Override
            public Void visitAssignment(AssignmentTree tree, Void none) {
                look(tree, tree.getVariable());
                return super.visitAssignment(tree, none);
            }

            @Override
            public Void visitCompoundAssignment(CompoundAssignmentTree tree, Void none) {
                look(tree, tree.getVariable());
                return super.visitCompoundAssignment(tree, none);
            }

            @Override
            public Void visitUnary(UnaryTree tree, Void none) {
                if (tree.getKind().toString().matches("(POSTFIX|PREFIX)_.*")) look(tree, tree.getExpression());
                return super.visitUnary(tree, none);
            }
        }.scan(new TreePath(getCurrentPath(), body), null);
    }

    private void lookAtMaking(Tree tree) {
        MethodTree around = methodAround();
        if (around != null && !around.getName().contentEquals("<init>")) fault(tree, "made by a call");
    }

    @Override
    public Void visitNewClass(NewClassTree tree, Void none) {
        lookAtMaking(tree);
        return super.visitNewClass(tree, none);
    }

    @Override
    public Void visitNewArray(NewArrayTree tree, Void none) {
        lookAtMaking(tree);
        return super.visitNewArray(tree, none);
    }

    /** The longest chain of calls from a method on, itself counted; one that comes round is followed no further than needed. */
    int depthOf(String method, int soFar) {
        if (soFar > DEEP) return 1;
        int deepest = 0;
        for (String called : calls.getOrDefault(method, Set.of())) deepest = Math.max(deepest, depthOf(called, soFar + 1));
        return deepest + 1;
    }
}
