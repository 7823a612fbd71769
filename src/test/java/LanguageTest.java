import com.sun.source.tree.*;
import com.sun.source.util.JavacTask;
import com.sun.source.util.SourcePositions;
import com.sun.source.util.TreeScanner;
import com.sun.source.util.Trees;
import java.io.File;
import java.util.ArrayList;
import java.util.HashMap;
import java.util.HashSet;
import java.util.List;
import java.util.Map;
import java.util.Set;
import java.util.TreeSet;
import javax.lang.model.element.Modifier;
import javax.tools.JavaCompiler;
import javax.tools.StandardJavaFileManager;
import javax.tools.ToolProvider;

/** The rules of LANGUAGE.md that can be read off the program's text, and the document's public face. */
public final class LanguageTest {
    private static final Set<String> FACE = Set.of(
            "<init>()", "command(int,int,int,int,int)long", "listen(int,int,int,int)long", "begin(int)boolean",
            "commit(int)int", "cancel(int)boolean", "watch(int,int)boolean", "result(int,int)long",
            "got(int,int)long", "tick(int)int", "sync()void", "crash()int", "rewrite()void", "ask(int,int)int",
            "element(int,int)long", "member(int,int,int)long", "between(int,int,int)int",
            "long WRONG", "long EMPTY", "long FULL", "long REFUSED", "long QUEUED", "long NONE");
    private static final Set<String> TYPES = Set.of("int", "long", "short", "byte", "char", "boolean");
    private static final Set<Tree.Kind> OUTSIDE = Set.of(
            Tree.Kind.THROW, Tree.Kind.TRY, Tree.Kind.SYNCHRONIZED, Tree.Kind.ASSERT, Tree.Kind.INSTANCE_OF,
            Tree.Kind.LAMBDA_EXPRESSION, Tree.Kind.MEMBER_REFERENCE, Tree.Kind.NEW_CLASS,
            Tree.Kind.NULL_LITERAL, Tree.Kind.STRING_LITERAL, Tree.Kind.FLOAT_LITERAL, Tree.Kind.DOUBLE_LITERAL,
            Tree.Kind.MEMBER_SELECT, Tree.Kind.ANNOTATION, Tree.Kind.ENHANCED_FOR_LOOP,
            Tree.Kind.WHILE_LOOP, Tree.Kind.DO_WHILE_LOOP);

    private static int wrong = 0;

    public static void main(String[] args) throws Exception {
        File source = new File("src/main/java/WaitingStore.java");
        JavaCompiler compiler = ToolProvider.getSystemJavaCompiler();
        StandardJavaFileManager files = compiler.getStandardFileManager(null, null, null);
        JavacTask task = (JavacTask) compiler.getTask(null, files, null, null, null, files.getJavaFileObjects(source));
        CompilationUnitTree unit = task.parse().iterator().next();
        look(unit, Trees.instance(task).getSourcePositions());
        System.out.println("the language: " + wrong + " places outside it");
        if (wrong != 0) {
            System.exit(1);
        }
    }

    private static void expect(boolean holds, int rule, String what) {
        if (!holds) {
            wrong++;
            System.out.println("rule " + rule + ": " + what);
        }
    }

    private static void look(CompilationUnitTree unit, SourcePositions positions) {
        expect(unit.getPackage() == null && unit.getImports().isEmpty(), 3, "a package or import");
        expect(unit.getTypeDecls().size() == 1, 1, "more than one class");
        ClassTree type = (ClassTree) unit.getTypeDecls().get(0);
        expect(type.getModifiers().getFlags().equals(Set.of(Modifier.PUBLIC, Modifier.FINAL)), 1, "modifiers");
        Set<String> face = new TreeSet<>();
        Map<String, Set<String>> calls = new HashMap<>();
        List<String> names = new ArrayList<>();
        int fields = 0;
        for (Tree member : type.getMembers()) {
            if (member instanceof VariableTree) {
                fields += lookAtField((VariableTree) member, face) ? 1 : 0;
            } else if (member instanceof MethodTree) {
                MethodTree method = (MethodTree) member;
                names.add(method.getName().toString());
                lookAtMethod(method, face, calls);
                long from = unit.getLineMap().getLineNumber(positions.getStartPosition(unit, method));
                long to = unit.getLineMap().getLineNumber(positions.getEndPosition(unit, method));
                expect(to - from < 60, 10, method.getName() + " is too long");
            } else {
                expect(false, 1, "a member that is neither field nor method: " + member);
            }
        }
        expect(fields <= 40, 10, "too many fields: " + fields);
        expect(names.size() == new HashSet<>(names).size(), 1, "a method name used twice");
        expect(face.equals(FACE), 1, "the public face is " + face);
        for (String name : names) {
            expect(depth(name, calls, 1) <= 6, 10, name + " calls too deep, or itself (rule 8)");
        }
        new Rules().scan(type, null);
    }

    /** Whether it is a field that is counted, one that is no constant. */
    private static boolean lookAtField(VariableTree field, Set<String> face) {
        Set<Modifier> flags = field.getModifiers().getFlags();
        String type = field.getType().toString();
        boolean constant = flags.contains(Modifier.STATIC);
        if (flags.contains(Modifier.PUBLIC)) {
            face.add(type + " " + field.getName());
        } else {
            expect(flags.contains(Modifier.PRIVATE), 1, "a field that is not private: " + field);
        }
        if (constant) {
            expect(flags.contains(Modifier.FINAL) && Set.of("int", "long").contains(type), 5, "a constant: " + field);
        }
        if (field.getType() instanceof ArrayTypeTree) {
            expect(flags.contains(Modifier.FINAL) && field.getInitializer() instanceof NewArrayTree, 4, "an array: " + field);
        }
        return !constant;
    }

    private static void lookAtMethod(MethodTree method, Set<String> face, Map<String, Set<String>> calls) {
        List<String> types = new ArrayList<>();
        for (VariableTree parameter : method.getParameters()) {
            types.add(parameter.getType().toString());
        }
        Tree answer = method.getReturnType();
        if (method.getModifiers().getFlags().contains(Modifier.PUBLIC)) {
            face.add(method.getName() + "(" + String.join(",", types) + ")" + (answer == null ? "" : answer));
        } else {
            expect(method.getModifiers().getFlags().contains(Modifier.PRIVATE), 1, method.getName() + " is not private");
        }
        expect(types.size() <= 7, 10, method.getName() + " has too many parameters");
        expect(!(answer instanceof ArrayTypeTree), 4, method.getName() + " answers an array");
        Set<String> called = new HashSet<>();
        new TreeScanner<Void, Void>() {
            @Override
            public Void visitMethodInvocation(MethodInvocationTree call, Void none) {
                called.add(call.getMethodSelect().toString());
                return super.visitMethodInvocation(call, none);
            }

            @Override
            public Void visitNewArray(NewArrayTree array, Void none) {
                expect(false, 4, method.getName() + " makes an array");
                return super.visitNewArray(array, none);
            }
        }.scan(method.getBody(), null);
        called.remove("super");
        calls.put(method.getName().toString(), called);
    }

    private static int depth(String name, Map<String, Set<String>> calls, int above) {
        expect(calls.containsKey(name), 3, "a call of " + name);
        int deepest = above;
        if (above <= 6) {
            for (String called : calls.getOrDefault(name, Set.of())) {
                deepest = Math.max(deepest, depth(called, calls, above + 1));
            }
        }
        return deepest;
    }

    /** What may stand nowhere in the class. */
    private static final class Rules extends TreeScanner<Void, Void> {
        @Override
        public Void scan(Tree tree, Void none) {
            if (tree != null) {
                expect(!OUTSIDE.contains(tree.getKind()), 6, tree.getKind() + ": " + tree);
            }
            return super.scan(tree, none);
        }

        @Override
        public Void visitVariable(VariableTree variable, Void none) {
            Tree type = variable.getType();
            String element = type instanceof ArrayTypeTree ? ((ArrayTypeTree) type).getType().toString() : type.toString();
            expect(TYPES.contains(element), 2, "a type: " + variable);
            return super.visitVariable(variable, none);
        }

        @Override
        public Void visitNewArray(NewArrayTree array, Void none) {
            expect(array.getDimensions().size() == 1 && array.getInitializers() == null, 4, "an array: " + array);
            return super.visitNewArray(array, none);
        }

        @Override
        public Void visitForLoop(ForLoopTree loop, Void none) {
            expect(loop.getCondition() instanceof BinaryTree && loop.getUpdate().size() == 1, 8, "a loop: " + loop);
            return super.visitForLoop(loop, none);
        }

        @Override
        public Void visitMethodInvocation(MethodInvocationTree call, Void none) {
            new TreeScanner<Void, Void>() {
                @Override
                public Void visitMethodInvocation(MethodInvocationTree inner, Void nothing) {
                    expect(false, 10, "a call inside a call's arguments: " + call);
                    return super.visitMethodInvocation(inner, nothing);
                }
            }.scan(call.getArguments(), null);
            return super.visitMethodInvocation(call, none);
        }
    }
}
