import java.io.IOException;
import java.lang.reflect.Constructor;
import java.lang.reflect.Field;
import java.lang.reflect.Method;
import java.lang.reflect.Modifier;
import java.nio.file.Files;
import java.nio.file.Path;
import java.util.ArrayList;
import java.util.List;
import java.util.Set;
import java.util.TreeSet;
import java.util.regex.Matcher;
import java.util.regex.Pattern;

/** The document's face, and those rules of LANGUAGE.md that can be seen without reading much. */
public final class FaceTest {
    private static final String SOURCE = "src/main/java/CreditBroker.java";
    private static final String[] FACE = {
        "row int int int", "set int int long", "copy int int int int int", "element int int", "holds int",
        "show int int int", "says int int", "feed int", "wipe", "topic", "queue int int int int",
        "exclusive int int", "consumer int", "leave int", "credit int int", "publish int int int", "give int",
        "giveAll int", "ack int int", "nack int int", "pass int", "revive int", "bury int", "purge int",
        "queueOf int int", "letter int int int", "consumerOf int int", "held int int", "messageOf int int",
        "dead int int", "cause int int int", "fits", "covers int int", "pattern int int", "next int int",
        "blocked int", "drained int int", "until int", "doomed int", "judge int int int", "days int", "seed int",
        "image", "back", "status int"};

    private static int wrong = 0;

    public static void main(String[] args) throws IOException {
        face();
        classesInside();
        words(withoutComments(Files.readString(Path.of(SOURCE))));
        System.out.println(wrong == 0 ? "face: as the document and the rules have it" : wrong + " faults");
        if (wrong != 0) {
            System.exit(1);
        }
    }

    private static void fault(String text) {
        wrong++;
        System.out.println(text);
    }

    private static void face() {
        Class<?> broker = CreditBroker.class;
        if (broker.getModifiers() != (Modifier.PUBLIC | Modifier.FINAL)) {
            fault("the class isn't public and final alone");
        }
        Set<String> due = new TreeSet<>(List.of(FACE));
        Set<String> there = new TreeSet<>();
        for (Method method : broker.getDeclaredMethods()) {
            String told = told(method);
            if (Modifier.isPublic(method.getModifiers())) {
                there.add(told);
                Class<?> answer = method.getName().equals("element") ? long.class : int.class;
                if (method.getReturnType() != answer || Modifier.isStatic(method.getModifiers())) {
                    fault("another form: " + method);
                }
            } else if (!Modifier.isPrivate(method.getModifiers())) {
                fault("neither public nor private: " + method);
            }
        }
        if (!due.equals(there)) {
            fault("the face is " + there);
        }
        for (Field field : broker.getDeclaredFields()) {
            boolean isConstant = field.getName().equals("NONE");
            if (isConstant != Modifier.isPublic(field.getModifiers())
                    || !isConstant && !Modifier.isPrivate(field.getModifiers())) {
                fault("a field: " + field);
            }
        }
        for (Constructor<?> constructor : broker.getDeclaredConstructors()) {
            if (constructor.getParameterCount() != 0 || !Modifier.isPublic(constructor.getModifiers())) {
                fault("a constructor: " + constructor);
            }
        }
    }

    private static Set<String> publicNames() {
        Set<String> names = new TreeSet<>();
        for (String method : FACE) {
            names.add(method.split(" ")[0]);
        }
        return names;
    }

    private static String told(Method method) {
        StringBuilder told = new StringBuilder(method.getName());
        for (Class<?> type : method.getParameterTypes()) {
            told.append(' ').append(type.getName());
        }
        return told.toString();
    }

    private static void classesInside() {
        List<Class<?>> all = new ArrayList<>(List.of(CreditBroker.class.getDeclaredClasses()));
        for (Class<?> inside : all) {
            int modifiers = inside.getModifiers();
            if (Modifier.isPublic(modifiers) || Modifier.isProtected(modifiers) || !Modifier.isStatic(modifiers)) {
                fault("rule 1: " + inside);
            }
        }
        if (all.size() + 1 > 12) {
            fault("rule 11: " + (all.size() + 1) + " classes");
        }
        all.add(CreditBroker.class);
        for (Class<?> one : all) {
            int own = 0;
            for (Field field : one.getDeclaredFields()) {
                boolean isStatic = Modifier.isStatic(field.getModifiers());
                own += isStatic ? 0 : 1;
                if (isStatic && !Modifier.isFinal(field.getModifiers())) {
                    fault("rule 5: " + field);
                }
            }
            if (own > 20) {
                fault("rule 11: " + own + " fields in " + one);
            }
            for (Method method : one.getDeclaredMethods()) {
                if (method.getParameterCount() > 7) {
                    fault("rule 11: " + method);
                }
                if (!Modifier.isPublic(method.getModifiers()) && publicNames().contains(method.getName())) {
                    fault("rule 1, one of its own with a public one's name: " + method);
                }
            }
        }
    }

    private static String withoutComments(String text) {
        return text.replaceAll("(?s)/\\*.*?\\*/", "").replaceAll("//[^\n]*", "");
    }

    private static void words(String code) {
        String[] none = {"throw", "throws", "try", "catch", "finally", "synchronized", "assert", "package", "import",
            "native", "volatile", "transient", "default void", "Object", "equals", "hashCode", "toString", "Thread",
            "System\\.(?!arraycopy)", "->", "::", "\"", "Exact"};
        for (String word : none) {
            String border = Character.isLetter(word.charAt(0)) && !word.endsWith(")") ? "\\b" : "";
            Matcher found = Pattern.compile(border + word + border).matcher(code);
            if (found.find()) {
                fault("a word outside the rules: " + found.group());
            }
        }
        int length = 0;
        for (String line : code.split("\n")) {
            boolean isHead = line.matches("\\s+[\\w\\[\\] ]+\\(.*\\{") && !line.matches("\\s+(for|if|while|switch|else).*");
            length = isHead ? 1 : length + 1;
            if (length > 70 && line.matches("\\s+\\}")) {
                fault("rule 11, a long method: " + line);
                return;
            }
        }
    }
}
