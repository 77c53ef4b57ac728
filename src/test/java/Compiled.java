import java.io.IOException;
import java.net.URL;
import java.net.URLClassLoader;
import java.nio.file.Files;
import java.nio.file.Path;
import java.util.stream.Stream;
import javax.tools.ToolProvider;

/** A class compiled from a text by the test itself, in a folder that goes when it is closed. */
final class Compiled implements AutoCloseable {
    private final Path dir = Files.createTempDirectory("compiled");
    private final String name;
    private final URLClassLoader loader;

    /** 'parent' loads the other classes that the text uses. */
    Compiled(String name, String source, ClassLoader parent) throws IOException {
        this.name = name;
        Path file = Files.writeString(dir.resolve(name + ".java"), source);
        int exit = ToolProvider.getSystemJavaCompiler().run(null, null, null,
                "-cp", System.getProperty("java.class.path"), "-d", dir.toString(),
                file.toString());
        Due.is("javac of " + name, exit, 0);
        loader = new URLClassLoader(new URL[] {dir.toUri().toURL()}, parent);
    }

    Class<?> type() throws ClassNotFoundException {
        return loader.loadClass(name);
    }

    @Override
    public void close() throws IOException {
        loader.close();
        try (Stream<Path> files = Files.list(dir)) {
            for (Path file : files.toList()) {
                Files.delete(file);
            }
        }
        Files.delete(dir);
    }
}
