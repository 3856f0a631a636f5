import java.lang.reflect.Constructor;
import java.lang.reflect.Executable;
import java.lang.reflect.Field;
import java.lang.reflect.Method;
import java.lang.reflect.Modifier;
import java.nio.file.Files;
import java.nio.file.Path;
import java.util.ArrayList;
import java.util.List;
import java.util.TreeSet;
import java.util.regex.Matcher;
import java.util.regex.Pattern;

/** The public face is the one that ../shared/DOC.md prints, and nothing else is seen from outside. */
public final class FaceTest {

    private static final Pattern MEMBER =
            Pattern.compile("public (?:(static final )?(\\w+) )?(\\w+)(?:\\(([^)]*)\\))?(?: = (-?\\d+))?(?: throws ([\\w, ]+))?;");

    public static void main(String[] args) throws Exception {
        Check check = new Check("FaceTest");
        Class<?> type = TypebarMachine.class;
        check.is("the class is public and final", type.getModifiers(), Modifier.PUBLIC | Modifier.FINAL);

        TreeSet<String> wanted = new TreeSet<>();
        for (String line : face().split("\n")) {
            Matcher m = MEMBER.matcher(line.trim());
            if (m.matches()) {
                wanted.add(tellWanted(m));
            }
        }
        check.is("members in the document's face", wanted.size(), 54);

        TreeSet<String> seen = new TreeSet<>();
        List<String> publicNames = new ArrayList<>();
        for (Constructor<?> c : type.getDeclaredConstructors()) {
            seen.add(tell(c, "TypebarMachine", ""));
        }
        for (Method m : type.getDeclaredMethods()) {
            if (!Modifier.isPrivate(m.getModifiers()) && !m.isSynthetic()) {
                seen.add(tell(m, m.getName(), m.getReturnType().getSimpleName() + " "));
                publicNames.add(m.getName());
            }
        }
        for (Field f : type.getDeclaredFields()) {
            if (!Modifier.isPrivate(f.getModifiers()) && !f.isSynthetic()) {
                seen.add(Modifier.toString(f.getModifiers()) + " " + f.getType().getSimpleName() + " " + f.getName());
            }
        }
        for (String member : wanted) {
            check.is("the face has " + member, seen.contains(member), true);
        }
        for (String member : seen) {
            check.is("the document's face has " + member, wanted.contains(member), true);
        }
        for (Method m : type.getDeclaredMethods()) {
            boolean hides = Modifier.isPrivate(m.getModifiers()) && publicNames.contains(m.getName());
            check.is("a private method bears the public name " + m.getName(), hides, false);
        }
        check.end();
    }

    private static String face() throws Exception {
        String doc = Files.readString(Path.of("../shared/DOC.md"));
        int start = doc.indexOf("public final class TypebarMachine {");
        return doc.substring(start, doc.indexOf("```", start));
    }

    private static String tellWanted(Matcher m) {
        if (m.group(1) != null) {
            return "public static final " + m.group(2) + " " + m.group(3);
        }
        StringBuilder told = new StringBuilder("public ");
        told.append(m.group(2) == null ? "" : m.group(2) + " ").append(m.group(3)).append('(');
        String comma = "";
        for (String parameter : m.group(4).isEmpty() ? new String[0] : m.group(4).split(", ")) {
            told.append(comma).append(parameter.split(" ")[0]);
            comma = ", ";
        }
        told.append(')');
        return m.group(6) == null ? told.toString() : told + " throws " + m.group(6);
    }

    private static String tell(Executable member, String name, String returned) {
        StringBuilder told = new StringBuilder(Modifier.toString(member.getModifiers()));
        told.append(' ').append(returned).append(name).append('(');
        String comma = "";
        for (Class<?> parameter : member.getParameterTypes()) {
            told.append(comma).append(parameter.getSimpleName());
            comma = ", ";
        }
        told.append(')');
        String before = " throws ";
        for (Class<?> thrown : member.getExceptionTypes()) {
            told.append(before).append(thrown.getSimpleName());
            before = ", ";
        }
        return told.toString();
    }
}
