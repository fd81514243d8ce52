import java.io.ByteArrayOutputStream;
import java.io.IOException;
import java.io.InputStream;
import java.io.OutputStream;
import java.lang.reflect.InvocationTargetException;
import java.lang.reflect.Method;
import java.net.URI;
import java.util.HashMap;
import java.util.List;
import java.util.Map;
import javax.tools.DiagnosticCollector;
import javax.tools.FileObject;
import javax.tools.ForwardingJavaFileManager;
import javax.tools.JavaCompiler;
import javax.tools.JavaFileManager;
import javax.tools.JavaFileObject;
import javax.tools.SimpleJavaFileObject;
import javax.tools.StandardJavaFileManager;
import javax.tools.ToolProvider;

/** Loads the tests anew with a class that is compiled from another source, all of it in memory. */
final class OtherClass extends ClassLoader {
    private static final JavaCompiler COMPILER = ToolProvider.getSystemJavaCompiler();
    /** One for each thread, as they are not made for more, and slow to make. */
    private static final ThreadLocal<StandardJavaFileManager> FILES =
            ThreadLocal.withInitial(() -> COMPILER.getStandardFileManager(null, null, null));

    private final Map<String, ByteArrayOutputStream> compiled = new HashMap<>();
    private final DiagnosticCollector<JavaFileObject> complaints = new DiagnosticCollector<>();
    private final boolean compiles;

    OtherClass(String name, String source) {
        super(ClassLoader.getPlatformClassLoader());
        JavaFileObject text = new SimpleJavaFileObject(URI.create("string:///" + name + ".java"),
                JavaFileObject.Kind.SOURCE) {
            @Override
            public CharSequence getCharContent(boolean ignored) {
                return source;
            }
        };
        compiles = COMPILER.getTask(null, inMemory(), complaints, List.of("-proc:none"), null, List.of(text)).call();
    }

    private JavaFileManager inMemory() {
        return new ForwardingJavaFileManager<JavaFileManager>(FILES.get()) {
            @Override
            public JavaFileObject getJavaFileForOutput(Location place, String name, JavaFileObject.Kind kind,
                    FileObject sibling) {
                return new SimpleJavaFileObject(URI.create("mem:///" + name + ".class"), kind) {
                    @Override
                    public OutputStream openOutputStream() {
                        ByteArrayOutputStream bytes = new ByteArrayOutputStream();
                        compiled.put(name, bytes);
                        return bytes;
                    }
                };
            }
        };
    }

    boolean compiles() {
        return compiles;
    }

    String complaint() {
        return complaints.getDiagnostics().toString();
    }

    /** What a static method without parameters answers. */
    Object answer(String type, String name) throws ReflectiveOperationException {
        Method method = loadClass(type).getDeclaredMethod(name);
        method.setAccessible(true);
        return method.invoke(null);
    }

    /** Whatever is thrown counts as a wrong answer. */
    int wrongAnswers(int group, int number) {
        try {
            Method method = loadClass("BrokenTest").getDeclaredMethod("wrongAnswersHere", int.class, int.class);
            method.setAccessible(true);
            return (Integer) method.invoke(null, group, number);
        } catch (InvocationTargetException e) {
            return 1;
        } catch (ReflectiveOperationException e) {
            throw new IllegalStateException(e);
        }
    }

    @Override
    protected Class<?> findClass(String name) throws ClassNotFoundException {
        ByteArrayOutputStream other = compiled.get(name);
        byte[] bytes = other != null ? other.toByteArray() : bytesOf(name);
        return defineClass(name, bytes, 0, bytes.length);
    }

    private static byte[] bytesOf(String name) throws ClassNotFoundException {
        try (InputStream in = ClassLoader.getSystemResourceAsStream(name.replace('.', '/') + ".class")) {
            if (in == null) {
                throw new ClassNotFoundException(name);
            }
            return in.readAllBytes();
        } catch (IOException e) {
            throw new ClassNotFoundException(name, e);
        }
    }
}
