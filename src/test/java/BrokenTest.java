import java.io.ByteArrayOutputStream;
import java.io.IOException;
import java.io.InputStream;
import java.io.OutputStream;
import java.io.StringWriter;
import java.lang.reflect.InvocationTargetException;
import java.lang.reflect.Method;
import java.net.URI;
import java.nio.charset.StandardCharsets;
import java.nio.file.Path;
import java.util.List;
import java.util.Map;
import java.util.TreeMap;
import javax.tools.FileObject;
import javax.tools.ForwardingJavaFileManager;
import javax.tools.JavaCompiler;
import javax.tools.JavaFileManager;
import javax.tools.JavaFileObject;
import javax.tools.SimpleJavaFileObject;
import javax.tools.ToolProvider;

/**
 * That each sentence's test fails, as it should, on each program that breaks the
 * sentence. Such a program is the whole one with a few words changed; where the
 * program has these words no more, that is told, and no fault.
 */
public final class BrokenTest {
    private static final Checks CHECKS = new Checks("BrokenTest");
    private static final JavaCompiler COMPILER = ToolProvider.getSystemJavaCompiler();

    public static void main(String[] args) throws IOException, ReflectiveOperationException {
        byte[] bytes = java.nio.file.Files.readAllBytes(Path.of(args[0]));
        String program = new String(bytes, StandardCharsets.US_ASCII);
        Map<String, Map<String, byte[]>> compiled = new TreeMap<>();
        List<Sentence> sentences = SentenceTest.sentences();
        for (int i = 0; i < sentences.size(); i++) {
            Sentence sentence = sentences.get(i);
            CHECKS.hold("some program breaks " + sentence.name(), !sentence.breakings().isEmpty());
            for (Sentence.Breaking breaking : sentence.breakings()) {
                String broken = breaking.in(program);
                Map<String, byte[]> classes = broken == null ? Map.of()
                    : compiled.computeIfAbsent(broken, BrokenTest::compile);
                if (classes.isEmpty()) {
                    System.out.println("  BrokenTest: no program any more: " + breaking);
                } else {
                    CHECKS.hold(breaking + " is seen by " + sentence.name(),
                        !holds(new Loader(classes), i));
                }
            }
        }
        Loader whole = new Loader(compile(program));
        for (int i = 0; i < sentences.size(); i++) {
            CHECKS.hold("the whole program holds " + sentences.get(i).name(), holds(whole, i));
        }
        CHECKS.end();
    }

    private static boolean holds(Loader loader, int number) throws ReflectiveOperationException {
        Method holds = loader.loadClass("SentenceTest").getDeclaredMethod("holds", int.class);
        holds.setAccessible(true);
        try {
            return (boolean) holds.invoke(null, number);
        } catch (InvocationTargetException thrown) {
            return false;
        }
    }

    /** The program's classes; none when it can't be compiled. */
    private static Map<String, byte[]> compile(String program) {
        Map<String, ByteArrayOutputStream> outputs = new TreeMap<>();
        JavaFileManager files = new ForwardingJavaFileManager<JavaFileManager>(
                COMPILER.getStandardFileManager(null, null, null)) {
            @Override
            public JavaFileObject getJavaFileForOutput(Location place, String name,
                    JavaFileObject.Kind kind, FileObject sibling) {
                return new SimpleJavaFileObject(URI.create("mem:///" + name + kind.extension), kind) {
                    @Override
                    public OutputStream openOutputStream() {
                        return outputs.computeIfAbsent(name, x -> new ByteArrayOutputStream());
                    }
                };
            }
        };
        JavaFileObject source = new SimpleJavaFileObject(URI.create("mem:///LayeredImage.java"),
                JavaFileObject.Kind.SOURCE) {
            @Override
            public CharSequence getCharContent(boolean ignoreErrors) {
                return program;
            }
        };
        boolean good = COMPILER.getTask(new StringWriter(), files, null, List.of("-proc:none"), null,
            List.of(source)).call();
        Map<String, byte[]> classes = new TreeMap<>();
        if (good) {
            outputs.forEach((name, output) -> classes.put(name, output.toByteArray()));
        }
        return classes;
    }

    /** The tests' classes once more, over another program. */
    private static final class Loader extends ClassLoader {
        private final Map<String, byte[]> program;

        Loader(Map<String, byte[]> program) {
            super(ClassLoader.getPlatformClassLoader());
            this.program = program;
        }

        @Override
        protected Class<?> findClass(String name) throws ClassNotFoundException {
            byte[] bytes = program.containsKey(name) ? program.get(name) : test(name);
            return defineClass(name, bytes, 0, bytes.length);
        }

        private static byte[] test(String name) throws ClassNotFoundException {
            try (InputStream in = BrokenTest.class.getResourceAsStream(name + ".class")) {
                if (in == null || name.startsWith("LayeredImage")) {
                    throw new ClassNotFoundException(name);
                }
                return in.readAllBytes();
            } catch (IOException gone) {
                throw new ClassNotFoundException(name, gone);
            }
        }
    }
}
