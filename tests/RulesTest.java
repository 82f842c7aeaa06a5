import com.sun.source.tree.CompilationUnitTree;
import com.sun.source.util.JavacTask;
import com.sun.source.util.Trees;
import java.io.IOException;
import java.util.List;
import javax.tools.JavaCompiler;
import javax.tools.StandardJavaFileManager;
import javax.tools.ToolProvider;

/** The rules of LANGUAGE.md, as far as the text of the class shows whether it keeps to them. */
public final class RulesTest {
    public static void main(String[] args) throws IOException {
        Check check = new Check();
        String file = args.length > 0 ? args[0] : "src/main/java/HatsInRing.java";
        JavaCompiler compiler = ToolProvider.getSystemJavaCompiler();
        try (StandardJavaFileManager files = compiler.getStandardFileManager(null, null, null)) {
            JavacTask task = (JavacTask) compiler.getTask(null, files, null, List.of("--release", "17", "-proc:none"), null,
                files.getJavaFileObjects(file));
            for (CompilationUnitTree unit : task.parse()) {
                task.analyze();
                Rules rules = new Rules(Trees.instance(task), unit, check);
                rules.scan(unit, null);
                rules.end();
            }
        }
        check.end();
    }
}
