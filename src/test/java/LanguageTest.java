import com.sun.source.tree.*;
import com.sun.source.util.JavacTask;
import com.sun.source.util.TreeScanner;
import java.io.File;
import java.util.HashSet;
import java.util.List;
import java.util.Set;
import javax.lang.model.element.Modifier;
import javax.tools.JavaCompiler;
import javax.tools.StandardJavaFileManager;
import javax.tools.ToolProvider;

/** The rules of ../shared/LANGUAGE.md that the shape of the file tells. It is run from the project's folder. */
public final class LanguageTest {
    private static final String FILE = "src/main/java/RideTie.java";
    private static final Set<String> FACE = Set.of("road", "ofRoad", "ofPiece", "ofPerson", "ofBeast", "lame", "walks",
        "rides", "gone", "plan", "ofPlan", "does", "wrong", "there", "came", "went", "outcome", "walked", "safe", "best",
        "row", "cost", "fewest", "rows", "even", "share", "sheet", "lose", "put", "cell", "copy", "tell", "call", "as",
        "trace", "fault", "many");
    private static final Set<String> CONSTANTS = Set.of("UNKNOWN", "OUTSIDE", "STATE", "FULL", "NONE", "LOST");
    private static final Set<String> FORBIDDEN = Set.of("THROW", "TRY", "CATCH", "SYNCHRONIZED", "ASSERT",
        "LAMBDA_EXPRESSION", "MEMBER_REFERENCE", "ENHANCED_FOR_LOOP", "INSTANCE_OF", "SWITCH_EXPRESSION");

    public static void main(String[] args) throws Exception {
        JavaCompiler compiler = ToolProvider.getSystemJavaCompiler();
        StandardJavaFileManager files = compiler.getStandardFileManager(null, null, null);
        JavacTask task = (JavacTask) compiler.getTask(null, files, null, null, null,
            files.getJavaFileObjects(new File(FILE)));
        for (CompilationUnitTree unit : task.parse()) {
            Checks.hold("no package", unit.getPackage() == null);
            Checks.hold("one class", unit.getTypeDecls().size() == 1);
            Checks.hold("imports", unit.getImports().isEmpty());
            Scan scan = new Scan(unit);
            scan.scan(unit, null);
            Checks.hold("twelve classes at most", scan.classes <= 12);
            Checks.due("public methods", scan.shown.size(), FACE.size());
            Checks.hold("the face", scan.shown.equals(FACE));
        }
        Checks.end();
    }

    private static final class Scan extends TreeScanner<Void, Void> {
        final CompilationUnitTree unit;
        final Set<String> shown = new HashSet<>();
        int classes = 0;
        int depth = 0;

        Scan(CompilationUnitTree unit) {
            this.unit = unit;
        }

        @Override
        public Void scan(Tree tree, Void none) {
            if (tree != null) {
                Checks.hold("no " + tree.getKind(), !FORBIDDEN.contains(tree.getKind().name()));
            }
            return super.scan(tree, none);
        }

        @Override
        public Void visitClass(ClassTree tree, Void none) {
            classes++;
            String name = tree.getSimpleName().toString();
            Set<Modifier> modifiers = tree.getModifiers().getFlags();
            Checks.hold(name + " has a name", !name.isEmpty());
            Checks.hold(name + " is static and not public", depth == 0
                || modifiers.contains(Modifier.STATIC) && !modifiers.contains(Modifier.PUBLIC));
            int fields = 0;
            for (Tree member : tree.getMembers()) {
                if (member instanceof VariableTree) {
                    VariableTree field = (VariableTree) member;
                    Set<Modifier> flags = field.getModifiers().getFlags();
                    boolean isStatic = flags.contains(Modifier.STATIC);
                    fields += isStatic ? 0 : 1;
                    Checks.hold(field.getName() + " is final", !isStatic || flags.contains(Modifier.FINAL));
                    Checks.hold(field.getName() + " is private or of the face", depth != 0
                        || flags.contains(Modifier.PRIVATE) != CONSTANTS.contains(field.getName().toString()));
                }
                Checks.hold("no block in " + name, !(member instanceof BlockTree));
            }
            Checks.hold(name + " has twenty fields at most", fields <= 20);
            depth++;
            super.visitClass(tree, none);
            depth--;
            return null;
        }

        @Override
        public Void visitMethod(MethodTree tree, Void none) {
            String name = tree.getName().toString();
            boolean isOfFace = depth == 1 && tree.getModifiers().getFlags().contains(Modifier.PUBLIC);
            if (isOfFace && tree.getReturnType() != null) {
                shown.add(name);
            }
            Checks.hold(name + " is private or of the face", depth != 1 || isOfFace
                || tree.getModifiers().getFlags().contains(Modifier.PRIVATE));
            Checks.hold(name + " bears no name of the face", isOfFace || !FACE.contains(name));
            Checks.hold(name + " takes seven at most", isOfFace || tree.getParameters().size() <= 7);
            String text = tree.toString();
            Checks.hold(name + " has sixty lines at most", text.length() - text.replace("\n", "").length() <= 60);
            return super.visitMethod(tree, none);
        }

        @Override
        public Void visitNewClass(NewClassTree tree, Void none) {
            Checks.hold("no anonymous class", tree.getClassBody() == null);
            return super.visitNewClass(tree, none);
        }

        @Override
        public Void visitMethodInvocation(MethodInvocationTree tree, Void none) {
            List<String> library = List.of("System", "Math", "Integer", "Long", "Arrays");
            List<String> known = List.of("System.arraycopy", "Math.abs", "Math.max", "Math.min", "Integer.bitCount");
            String call = tree.getMethodSelect().toString();
            boolean isLibrary = library.contains(call.split("\\.")[0]);
            Checks.hold(call + " is of what stands in rule 4", !isLibrary || known.contains(call));
            return super.visitMethodInvocation(tree, none);
        }
    }
}
