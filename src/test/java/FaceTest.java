import java.lang.reflect.Constructor;
import java.lang.reflect.Field;
import java.lang.reflect.Method;
import java.lang.reflect.Modifier;
import java.nio.file.Files;
import java.nio.file.Path;
import java.util.ArrayList;
import java.util.Arrays;
import java.util.List;
import java.util.TreeSet;
import java.util.regex.Pattern;

/** The public face of the document, and the rules of LANGUAGE.md that a program can look for. */
public final class FaceTest {
    private static final String[] FACE = {
        "int buyer(int) IllegalArgumentException UnsupportedOperationException",
        "int good() UnsupportedOperationException",
        "void money(int,int) IndexOutOfBoundsException IllegalArgumentException",
        "void value(int,int,int) IndexOutOfBoundsException IllegalArgumentException",
        "void join(int,int) IndexOutOfBoundsException IllegalArgumentException",
        "int undo() IllegalStateException",
        "int count(boolean)",
        "int told(int,int) IndexOutOfBoundsException",
        "int ready()",
        "void solve() IllegalStateException",
        "long price(int,boolean) IllegalStateException IndexOutOfBoundsException",
        "long best(int,int,boolean) IllegalStateException IndexOutOfBoundsException",
        "boolean likes(int,int) IllegalStateException IndexOutOfBoundsException",
        "long spent(int,int,int,boolean) IllegalStateException IndexOutOfBoundsException",
        "void tryPrice(int,int,int) IndexOutOfBoundsException IllegalArgumentException",
        "int test() IllegalStateException",
    };

    public static void main(String[] args) throws Exception {
        faceIsThatOfTheDocument();
        headersAreThoseOfTheDocument();
        nothingElseIsSeen();
        sourceKeepsToTheLanguage();
        Check.end();
    }

    private static void faceIsThatOfTheDocument() {
        TreeSet<String> due = new TreeSet<>(Arrays.asList(FACE));
        TreeSet<String> got = new TreeSet<>();
        for (Method method : MarketDesk.class.getDeclaredMethods()) {
            if (!Modifier.isPrivate(method.getModifiers())) {
                boolean plain = Modifier.toString(method.getModifiers()).equals("public");
                got.add(plain ? signature(method) : method.toString());
            }
        }
        Check.same("methods of the face", due, got);
        Check.same("modifiers of the class", "public final", Modifier.toString(MarketDesk.class.getModifiers()));
        Constructor<?>[] constructors = MarketDesk.class.getDeclaredConstructors();
        Check.same("constructors", 1, constructors.length);
        Check.same("the constructor", "public MarketDesk()", constructors[0].toString());
    }

    /** Word for word, with the names of what is given to a call. */
    private static void headersAreThoseOfTheDocument() throws Exception {
        String document = Files.readString(Path.of("../shared/DOC.md"));
        String source = Files.readString(Path.of("src/main/java/MarketDesk.java")).replaceAll("\\s+", " ");
        int begin = document.indexOf("```java\n") + 8;
        String[] lines = document.substring(begin, document.indexOf("```", begin)).split("\n");
        for (String line : lines) {
            if (line.contains("public")) {
                String header = line.trim().replace(";", " {");
                Check.same("in the source: " + header, true, source.contains(header));
            }
        }
        Check.same("lines of the face", FACE.length + 3, lines.length);
    }

    private static String signature(Method method) {
        StringBuilder text = new StringBuilder();
        text.append(method.getReturnType()).append(' ').append(method.getName()).append('(');
        List<String> types = new ArrayList<>();
        for (Class<?> type : method.getParameterTypes()) {
            types.add(type.getSimpleName());
        }
        text.append(String.join(",", types)).append(')');
        for (Class<?> type : method.getExceptionTypes()) {
            text.append(' ').append(type.getSimpleName());
        }
        return text.toString();
    }

    private static void nothingElseIsSeen() {
        for (Field field : MarketDesk.class.getDeclaredFields()) {
            Check.same("private " + field, true, Modifier.isPrivate(field.getModifiers()));
        }
        TreeSet<String> open = new TreeSet<>();
        for (Method method : MarketDesk.class.getDeclaredMethods()) {
            if (Modifier.isPublic(method.getModifiers())) {
                open.add(method.getName());
            }
        }
        for (Class<?> inside : MarketDesk.class.getDeclaredClasses()) {
            int modifiers = inside.getModifiers();
            Check.same("static " + inside, true, Modifier.isStatic(modifiers));
            Check.same("hidden " + inside, false, Modifier.isPublic(modifiers) || Modifier.isProtected(modifiers));
            for (Method method : inside.getDeclaredMethods()) {
                Check.same("a name of the face for " + method, false, open.contains(method.getName()));
            }
        }
    }

    private static void sourceKeepsToTheLanguage() throws Exception {
        String source = Files.readString(Path.of("src/main/java/MarketDesk.java"));
        String code = source.replaceAll("(?s)/\\*.*?\\*/", " ").replaceAll("//[^\n]*", " ")
            .replaceAll("\"[^\"\n]*\"", "text");
        String[] words = {"import", "package", "try", "catch", "finally", "synchronized", "assert", "double", "float",
            "System\\.(?!arraycopy)\\w+", "\\w+Exact", "getMessage", "hashCode", "equals", "toString", "random"};
        for (String word : words) {
            Check.same(word + " in the source", false, Pattern.compile("\\b" + word + "\\b").matcher(code).find());
        }
        Check.same("-> in the source", false, code.contains("->"));
        Check.same(":: in the source", false, code.contains("::"));
    }
}
