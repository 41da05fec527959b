import java.lang.reflect.Constructor;
import java.lang.reflect.Field;
import java.lang.reflect.Method;
import java.lang.reflect.Modifier;
import java.nio.file.Files;
import java.nio.file.Path;
import java.util.ArrayList;
import java.util.List;
import java.util.Set;
import java.util.TreeSet;
import java.util.regex.Matcher;
import java.util.regex.Pattern;

/** The face of the class, and those rules of ../shared/LANGUAGE.md that can be read off the file. */
public final class LanguageTest {
    private static final Due DUE = new Due("LanguageTest");
    private static final String[] FACE = {
        "int days(int)", "int game(int)", "int cell(int,int,int)", "int holder(int,int)", "int runs(int,int)",
        "int drops(int,int)", "int piece(int,int,int)", "int ofPiece(int,int)", "int ofHolder(int,int)",
        "int ofGame(int,int)", "int feed(int,int)", "int rule(int,int)", "int inForce(int,int,int)",
        "int says(int,int)", "int drawn(int,int)", "int card(int,int,int)", "int ofCard(int,int)",
        "int order(int,int,int,int)", "int turn(int,int,int)", "int ofOrder(int,int)", "int read(int,int,int,int)",
        "int orderOf(int)", "int done(int)", "int again(int,int)", "int was(int,int)", "int sees(int,int)",
        "int alike(int,int)", "int way(int,int,int)", "int best()", "int bestWay(int)", "int judge(int)",
        "int pay(int,int)", "int bar(int)", "int act(int,int,int)", "int trace(int)", "int keep(int,int)",
        "int row(int,int,int)", "int put(int,int,long)", "long element(int,int)", "int shift(int,int,int,int,int)",
        "int taken(int,int)", "int check(int)", "int count(int)"};
    private static final String[] CONSTANTS = {"BAD", "NOT", "FULL", "STATE", "VOID"};

    public static void main(String[] args) throws Exception {
        face();
        members();
        words(Files.readString(Path.of("src/main/java/PostTurns.java")));
        DUE.end();
    }

    private static void face() {
        Set<String> methods = new TreeSet<>();
        for (Method m : PostTurns.class.getDeclaredMethods()) {
            if (!Modifier.isPrivate(m.getModifiers()) && !m.isSynthetic()) methods.add(sign(m));
        }
        DUE.holds("the methods are those of the face: " + methods, methods.equals(new TreeSet<>(List.of(FACE))));
        Set<String> fields = new TreeSet<>();
        for (Field f : PostTurns.class.getDeclaredFields()) {
            if (!Modifier.isPrivate(f.getModifiers())) fields.add(f.getName());
        }
        DUE.holds("the constants are those of the face: " + fields, fields.equals(new TreeSet<>(List.of(CONSTANTS))));
        Constructor<?>[] made = PostTurns.class.getDeclaredConstructors();
        DUE.holds("one public constructor", made.length == 1 && Modifier.isPublic(made[0].getModifiers())
            && made[0].getParameterCount() == 0);
        DUE.holds("final", Modifier.isFinal(PostTurns.class.getModifiers()));
        DUE.is("BAD", PostTurns.BAD, -1);
        DUE.is("NOT", PostTurns.NOT, -2);
        DUE.is("FULL", PostTurns.FULL, -3);
        DUE.is("STATE", PostTurns.STATE, -4);
        DUE.is("VOID", PostTurns.VOID, -2000000000);
    }

    private static String sign(Method m) {
        StringBuilder text = new StringBuilder(m.getReturnType() + " " + m.getName() + "(");
        for (int i = 0; i < m.getParameterCount(); i++) {
            text.append(i == 0 ? "" : ",").append(m.getParameterTypes()[i]);
        }
        return text.append(")").toString();
    }

    /** Classes inside are static and no more than twelve with the outer one; static fields are constants; names part. */
    private static void members() {
        List<Class<?>> all = new ArrayList<>(List.of(PostTurns.class.getDeclaredClasses()));
        for (Class<?> one : all) {
            DUE.holds(one + " is static", Modifier.isStatic(one.getModifiers()));
            DUE.holds(one + " is not open", !Modifier.isPublic(one.getModifiers()) && !Modifier.isProtected(one.getModifiers()));
        }
        all.add(PostTurns.class);
        DUE.holds("at most twelve classes: " + all.size(), all.size() <= 12);
        Set<String> open = new TreeSet<>();
        for (String method : FACE) open.add(method.substring(method.indexOf(' ') + 1, method.indexOf('(')));
        for (Class<?> one : all) {
            int fields = 0;
            for (Field f : one.getDeclaredFields()) {
                if (!Modifier.isStatic(f.getModifiers())) fields++;
                else DUE.holds(one + "." + f.getName() + " is final", Modifier.isFinal(f.getModifiers()));
            }
            DUE.holds(one + " has at most twenty fields: " + fields, fields <= 20);
            for (Method m : one.getDeclaredMethods()) {
                DUE.holds(sign(m) + " takes at most seven", m.getParameterCount() <= 7);
                boolean own = one == PostTurns.class && !Modifier.isPrivate(m.getModifiers());
                DUE.holds(one + "." + m.getName() + " bears a name of its own", own || !open.contains(m.getName()));
            }
        }
    }

    private static void words(String file) {
        String code = file.replaceAll("(?s)/\\*.*?\\*/", " ").replaceAll("//[^\n]*", " ");
        String[] out = {"throw", "throws", "try", "catch", "synchronized", "assert", "import", "package",
            "native", "volatile", "System.out", "hashCode", "toString", "Exact", "static \\{"};
        for (String word : out) {
            DUE.holds("no " + word, !Pattern.compile("(?<!\\w)" + word + "(?!\\w)").matcher(code).find());
        }
        DUE.holds("no lambda, no method reference", !code.contains("->") && !code.contains("::"));
        Matcher sign = Pattern.compile("[^\\x00-\\x7f]").matcher(file);
        DUE.holds("plain signs", !sign.find());
        for (String line : file.split("\n")) DUE.holds("a line is not over long: " + line, line.length() <= 130);
        methodLengths(file.split("\n"));
    }

    private static void methodLengths(String[] lines) {
        int from = -1;
        String indent = "";
        for (int i = 0; i < lines.length; i++) {
            Matcher head = Pattern.compile("^(\\s+)[\\w<>\\[\\]. ]+\\([^;]*\\) \\{$").matcher(lines[i]);
            if (from < 0 && head.find() && !lines[i].trim().matches("(if|for|switch|else).*")) {
                from = i;
                indent = head.group(1);
            } else if (from >= 0 && lines[i].equals(indent + "}")) {
                DUE.holds("at most sixty lines: " + lines[from], i - from < 60);
                from = -1;
            }
        }
    }
}
