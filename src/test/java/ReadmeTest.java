import java.lang.reflect.Method;
import java.lang.reflect.Modifier;
import java.net.URL;
import java.net.URLClassLoader;
import java.nio.file.Files;
import java.nio.file.Path;
import java.util.regex.Matcher;
import java.util.regex.Pattern;

/** Runs the lines of README.md's examples, in their order: each must answer what stands behind its //; every call is named. */
public final class ReadmeTest {
    private static final Due DUE = new Due("ReadmeTest");
    private static final Pattern CALL = Pattern.compile("^(?:int (\\w+) = )?(x\\..*); *// *(-?\\d+)(?: .*)?$");

    public static void main(String[] args) throws Exception {
        String readme = Files.readString(Path.of("README.md"));
        Path made = Files.createTempDirectory("readme");
        try {
            runLines(readme, made);
        } finally {
            for (String name : new String[] {"Lines.java", "Lines.class"}) Files.deleteIfExists(made.resolve(name));
            Files.delete(made);
        }
        for (Method method : PostTurns.class.getDeclaredMethods()) {
            if (!Modifier.isPublic(method.getModifiers())) continue;
            DUE.holds("README.md names " + method.getName(), readme.contains("`" + method.getName() + "`"));
        }
        DUE.end();
    }

    private static void runLines(String readme, Path made) throws Exception {
        Path file = made.resolve("Lines.java");
        Files.writeString(file, program(readme));
        ProcessBuilder javac = new ProcessBuilder("javac", "-cp", System.getProperty("java.class.path"), "-d", made.toString(),
            file.toString());
        int failed = javac.inheritIO().start().waitFor();
        DUE.is("the examples compile", failed, 0);
        if (failed != 0) return;
        try (URLClassLoader loader = new URLClassLoader(new URL[] {made.toUri().toURL()})) {
            Object[] got = (Object[]) loader.loadClass("Lines").getMethod("answers").invoke(null);
            for (Object one : got) {
                Object[] row = (Object[]) one;
                DUE.is((String) row[0], (Long) row[1], (Long) row[2]);
            }
            DUE.holds("there are examples: " + got.length, got.length > 30);
        }
    }

    /** All java blocks as one method that gives a row for each line: its text, what it answered, what stands behind //. */
    private static String program(String readme) {
        StringBuilder code = new StringBuilder("public final class Lines { public static Object[] answers() {\n"
            + "java.util.List<Object> rows = new java.util.ArrayList<>();\n");
        Matcher block = Pattern.compile("(?s)```java\n(.*?)```").matcher(readme);
        while (block.find()) {
            for (String line : block.group(1).split("\n")) {
                Matcher call = CALL.matcher(line);
                if (!call.matches()) {
                    DUE.holds("a line with its answer: " + line, !line.contains("x."));
                    code.append(line).append('\n');
                    continue;
                }
                String name = call.group(1) == null ? "line" + code.length() : call.group(1);
                String text = call.group(2).replace("\\", "\\\\").replace("\"", "\\\"");
                code.append("int ").append(name).append(" = ").append(call.group(2)).append(";\nrows.add(new Object[] {\"")
                    .append(text).append("\", (long) ").append(name).append(", ").append(call.group(3)).append("L});\n");
            }
        }
        return code.append("return rows.toArray(); } }\n").toString();
    }
}
