import com.sun.source.tree.ArrayTypeTree;
import com.sun.source.tree.AssignmentTree;
import com.sun.source.tree.BlockTree;
import com.sun.source.tree.ClassTree;
import com.sun.source.tree.CompilationUnitTree;
import com.sun.source.tree.ExpressionTree;
import com.sun.source.tree.IdentifierTree;
import com.sun.source.tree.LiteralTree;
import com.sun.source.tree.MemberSelectTree;
import com.sun.source.tree.MethodInvocationTree;
import com.sun.source.tree.MethodTree;
import com.sun.source.tree.NewArrayTree;
import com.sun.source.tree.PrimitiveTypeTree;
import com.sun.source.tree.Tree;
import com.sun.source.tree.TypeCastTree;
import com.sun.source.tree.VariableTree;
import com.sun.source.util.JavacTask;
import com.sun.source.util.SourcePositions;
import com.sun.source.util.TreeScanner;
import com.sun.source.util.Trees;
import java.io.IOException;
import java.net.URI;
import java.util.ArrayList;
import java.util.EnumSet;
import java.util.HashSet;
import java.util.List;
import java.util.Map;
import java.util.Set;
import java.util.TreeMap;
import java.util.TreeSet;
import javax.lang.model.element.Modifier;
import javax.lang.model.type.TypeKind;
import javax.tools.JavaFileObject;
import javax.tools.SimpleJavaFileObject;
import javax.tools.ToolProvider;

/**
 * Reads off a program's text where it leaves LANGUAGE.md; the rules' numbers are its own. Types of
 * expressions and ends of loops are not worked out, so what needs these is left to the reader.
 */
final class Language extends TreeScanner<Void, Void> {
    private static final int MOST_PARAMETERS = 7;
    private static final int MOST_LINES = 65;
    private static final int MOST_DEEP = 6;
    private static final int MOST_FIELDS = 40;
    private static final Set<TypeKind> TYPES = EnumSet.of(TypeKind.INT, TypeKind.LONG,
            TypeKind.SHORT, TypeKind.BYTE, TypeKind.CHAR, TypeKind.BOOLEAN);
    private static final Map<Tree.Kind, Integer> FORBIDDEN = Map.ofEntries(
            Map.entry(Tree.Kind.FLOAT_LITERAL, 2), Map.entry(Tree.Kind.DOUBLE_LITERAL, 2),
            Map.entry(Tree.Kind.STRING_LITERAL, 2), Map.entry(Tree.Kind.NEW_CLASS, 2),
            Map.entry(Tree.Kind.IMPORT, 3), Map.entry(Tree.Kind.NULL_LITERAL, 4),
            Map.entry(Tree.Kind.THROW, 6), Map.entry(Tree.Kind.TRY, 6),
            Map.entry(Tree.Kind.SYNCHRONIZED, 6), Map.entry(Tree.Kind.ASSERT, 6),
            Map.entry(Tree.Kind.INSTANCE_OF, 6), Map.entry(Tree.Kind.LAMBDA_EXPRESSION, 6),
            Map.entry(Tree.Kind.MEMBER_REFERENCE, 6));

    private final List<String> broken = new ArrayList<>();
    private final Map<String, Set<String>> calls = new TreeMap<>();
    private final Set<String> publicNames = new HashSet<>();
    private final Set<String> privateNames = new HashSet<>();
    private final Set<String> arrayFields = new HashSet<>();
    private final CompilationUnitTree unit;
    private final SourcePositions positions;
    private int fields;
    private String method = "";
    private boolean inArguments;

    private Language(CompilationUnitTree unit, SourcePositions positions) {
        this.unit = unit;
        this.positions = positions;
    }

    /** What is broken, a line each, with the rule's number first. */
    static List<String> broken(String text) throws IOException {
        JavaFileObject file = new SimpleJavaFileObject(URI.create("string:///StatementTables.java"),
                JavaFileObject.Kind.SOURCE) {
            @Override
            public CharSequence getCharContent(boolean ignoreErrors) {
                return text;
            }
        };
        JavacTask task = (JavacTask) ToolProvider.getSystemJavaCompiler()
                .getTask(null, null, null, null, null, List.of(file));
        CompilationUnitTree unit = task.parse().iterator().next();
        Language language = new Language(unit, Trees.instance(task).getSourcePositions());
        language.readUnit();
        return language.broken;
    }

    private void readUnit() {
        breaksIf(unit.getPackage() != null, 1, unit, "a package");
        breaksIf(unit.getTypeDecls().size() != 1, 1, unit, "not one class");
        for (Tree member : ((ClassTree) unit.getTypeDecls().get(0)).getMembers()) {
            noteField(member);
        }
        scan(unit, null);
        breaksIf(fields > MOST_FIELDS, 10, unit, fields + " fields");
        for (String name : privateNames) {
            breaksIf(publicNames.contains(name), 1, unit, name + " is public and private");
        }
        for (String name : calls.keySet()) {
            breaksIf(reached(name).contains(name), 8, unit, name + " calls itself");
        }
        boolean ends = broken.stream().noneMatch(line -> line.startsWith("8 "));
        for (String name : calls.keySet()) {
            breaksIf(ends && depth(name) > MOST_DEEP, 10, unit, name + " goes too deep");
        }
    }

    private void noteField(Tree member) {
        if (member instanceof VariableTree && ((VariableTree) member).getType()
                instanceof ArrayTypeTree) {
            arrayFields.add(((VariableTree) member).getName().toString());
        }
    }

    private void breaksIf(boolean wrong, int rule, Tree at, String what) {
        if (wrong) {
            long line = unit.getLineMap().getLineNumber(positions.getStartPosition(unit, at));
            broken.add(rule + " (line " + line + "): " + what);
        }
    }

    private Set<String> reached(String from) {
        Set<String> reached = new TreeSet<>();
        List<String> open = new ArrayList<>(calls.getOrDefault(from, Set.of()));
        while (!open.isEmpty()) {
            String name = open.remove(open.size() - 1);
            if (reached.add(name)) {
                open.addAll(calls.getOrDefault(name, Set.of()));
            }
        }
        return reached;
    }

    private int depth(String from) {
        int below = 0;
        for (String name : calls.getOrDefault(from, Set.of())) {
            below = Math.max(below, depth(name));
        }
        return below + 1;
    }

    @Override
    public Void scan(Tree tree, Void unused) {
        if (tree != null && FORBIDDEN.containsKey(tree.getKind())) {
            breaksIf(true, FORBIDDEN.get(tree.getKind()), tree, tree.getKind().toString());
        }
        return super.scan(tree, unused);
    }

    @Override
    public Void visitClass(ClassTree tree, Void unused) {
        breaksIf(tree.getKind() != Tree.Kind.CLASS, 1, tree, "not a class");
        breaksIf(!unit.getTypeDecls().contains(tree), 1, tree, "a nested class");
        breaksIf(!tree.getModifiers().getFlags().equals(
                EnumSet.of(Modifier.PUBLIC, Modifier.FINAL)), 1, tree, "not public final");
        breaksIf(tree.getExtendsClause() != null || !tree.getImplementsClause().isEmpty(), 1, tree,
                "another class or interface above it");
        for (Tree member : tree.getMembers()) {
            if (member instanceof VariableTree) {
                readField((VariableTree) member);
            } else if (member instanceof BlockTree) {
                breaksIf(((BlockTree) member).isStatic(), 5, member, "a static initialiser");
                scan(member, null);
            } else {
                scan(member, null);
            }
        }
        return null;
    }

    private void readField(VariableTree field) {
        Set<Modifier> flags = field.getModifiers().getFlags();
        breaksIf(!isAllowed(field.getType()), 2, field, "type " + field.getType());
        if (flags.contains(Modifier.STATIC)) {
            String type = field.getType().toString();
            breaksIf(!flags.contains(Modifier.FINAL) || field.getInitializer() == null
                    || !(type.equals("int") || type.equals("long")), 5, field, "not a constant");
        } else {
            fields++;
            breaksIf(!flags.contains(Modifier.PRIVATE), 1, field, "a field that is not private");
        }
        if (field.getInitializer() instanceof NewArrayTree) {
            readNewArray((NewArrayTree) field.getInitializer());
        } else {
            scan(field.getInitializer(), null);
        }
    }

    private void readNewArray(NewArrayTree array) {
        boolean good = array.getInitializers() == null && array.getDimensions().size() == 1
                && (array.getDimensions().get(0) instanceof LiteralTree
                || array.getDimensions().get(0) instanceof IdentifierTree);
        breaksIf(!good, 4, array, "a length that is not a literal or a constant");
    }

    private static boolean isAllowed(Tree type) {
        Tree inner = type instanceof ArrayTypeTree ? ((ArrayTypeTree) type).getType() : type;
        return inner instanceof PrimitiveTypeTree
                && TYPES.contains(((PrimitiveTypeTree) inner).getPrimitiveTypeKind());
    }

    @Override
    public Void visitMethod(MethodTree tree, Void unused) {
        Set<Modifier> flags = tree.getModifiers().getFlags();
        method = tree.getName().toString();
        breaksIf(!flags.contains(Modifier.PUBLIC) && !flags.contains(Modifier.PRIVATE), 1, tree,
                method + " is neither public nor private");
        (flags.contains(Modifier.PUBLIC) ? publicNames : privateNames).add(method);
        boolean answersNothing = tree.getReturnType() == null
                || tree.getReturnType().toString().equals("void");
        breaksIf(tree.getReturnType() instanceof ArrayTypeTree, 4, tree, "answers an array");
        breaksIf(!answersNothing && !isAllowed(tree.getReturnType()), 2, tree, "what it answers");
        breaksIf(tree.getParameters().size() > MOST_PARAMETERS, 10, tree, "many parameters");
        long first = unit.getLineMap().getLineNumber(positions.getStartPosition(unit, tree));
        long last = unit.getLineMap().getLineNumber(positions.getEndPosition(unit, tree));
        breaksIf(last - first + 1 > MOST_LINES, 10, tree, method + " is long");
        calls.putIfAbsent(method, new TreeSet<>());
        return super.visitMethod(tree, unused);
    }

    /** A parameter or a local variable: fields are read with the class. */
    @Override
    public Void visitVariable(VariableTree tree, Void unused) {
        breaksIf(!isAllowed(tree.getType()), 2, tree, "type " + tree.getType());
        return super.visitVariable(tree, unused);
    }

    @Override
    public Void visitNewArray(NewArrayTree tree, Void unused) {
        breaksIf(true, 4, tree, "an array made outside the fields' initialisers");
        return super.visitNewArray(tree, unused);
    }

    @Override
    public Void visitAssignment(AssignmentTree tree, Void unused) {
        breaksIf(arrayFields.contains(tree.getVariable().toString().replace("this.", "")), 4, tree,
                "an array field is assigned to");
        return super.visitAssignment(tree, unused);
    }

    @Override
    public Void visitTypeCast(TypeCastTree tree, Void unused) {
        breaksIf(!(tree.getType() instanceof PrimitiveTypeTree), 6, tree, "cast of a reference");
        return super.visitTypeCast(tree, unused);
    }

    @Override
    public Void visitMemberSelect(MemberSelectTree tree, Void unused) {
        boolean good = tree.getIdentifier().contentEquals("length")
                || tree.getExpression().toString().equals("this");
        breaksIf(!good, 3, tree, "something of another class: " + tree);
        return super.visitMemberSelect(tree, unused);
    }

    @Override
    public Void visitMethodInvocation(MethodInvocationTree tree, Void unused) {
        String called = tree.getMethodSelect().toString().replace("this.", "");
        breaksIf(inArguments, 10, tree, called + " stands inside the arguments of another call");
        calls.computeIfAbsent(method, name -> new TreeSet<>()).add(called);
        scan(tree.getMethodSelect(), unused);
        boolean before = inArguments;
        inArguments = true;
        for (ExpressionTree argument : tree.getArguments()) {
            scan(argument, unused);
        }
        inArguments = before;
        return null;
    }
}
