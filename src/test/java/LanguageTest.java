import java.io.IOException;
import java.lang.reflect.Constructor;
import java.lang.reflect.Field;
import java.lang.reflect.Method;
import java.lang.reflect.Modifier;
import java.nio.file.Files;
import java.nio.file.Path;
import java.util.ArrayList;
import java.util.List;
import java.util.Set;
import java.util.TreeSet;
import java.util.regex.Matcher;
import java.util.regex.Pattern;

/** The document's face, and those rules of LANGUAGE.md that can be read off the class and its text. */
final class LanguageTest {
    private static final String[] FACE = {
        "score int", "beat int int int", "take int int int int int", "tear int", "play int int int int",
        "copy int int int int int", "put int int int", "sample int int", "as int int", "level int int",
        "hand int int int", "lay int", "frame int int", "mark int int int", "worth int int", "set int int",
        "like int int int int", "shift int int int", "cost int int int", "bar int boolean", "keep int int",
        "best int", "few int", "way int", "joins", "made", "heard int", "from int int", "tell int", "check",
        "found int",
    };
    private static final String[] LIBRARY = {
        "Arrays.fill", "Math.abs", "Math.max", "Math.min", "Math.floorDiv",
    };
    private static final Due due = new Due();

    public static void main(String[] args) throws IOException {
        face();
        nested();
        text();
        due.end();
    }

    private static void face() {
        Set<String> wanted = new TreeSet<>(List.of(FACE));
        Set<String> seen = new TreeSet<>();
        due.holds("the class is public and final",
            Modifier.isPublic(TakeDesk.class.getModifiers()) && Modifier.isFinal(TakeDesk.class.getModifiers()));
        for (Method method : TakeDesk.class.getDeclaredMethods()) {
            if (Modifier.isPublic(method.getModifiers())) {
                seen.add(signature(method));
                due.holds(method.getName() + " answers an int", method.getReturnType() == int.class);
                due.holds(method.getName() + " is of an object", !Modifier.isStatic(method.getModifiers()));
            } else {
                due.holds(method.getName() + " is private", Modifier.isPrivate(method.getModifiers()));
            }
        }
        due.holds("the face is " + wanted + ", not " + seen, wanted.equals(seen));
        for (Field field : TakeDesk.class.getDeclaredFields()) {
            due.holds(field.getName() + " is private", Modifier.isPrivate(field.getModifiers()));
        }
        Constructor<?>[] made = TakeDesk.class.getDeclaredConstructors();
        due.holds("one public constructor without arguments",
            made.length == 1 && made[0].getParameterCount() == 0 && Modifier.isPublic(made[0].getModifiers()));
    }

    private static String signature(Method method) {
        StringBuilder text = new StringBuilder(method.getName());
        for (Class<?> type : method.getParameterTypes()) {
            text.append(' ').append(type.getName());
        }
        return text.toString();
    }

    private static void nested() {
        List<Class<?>> all = new ArrayList<>(List.of(TakeDesk.class.getDeclaredClasses()));
        due.holds("at most twelve classes", all.size() < 12);
        Set<String> publicNames = new TreeSet<>();
        for (String one : FACE) {
            publicNames.add(one.split(" ")[0]);
        }
        for (Class<?> type : all) {
            due.holds(type + " is static", Modifier.isStatic(type.getModifiers()));
            for (Method method : type.getDeclaredMethods()) {
                due.holds(type + " has a method of the face's name " + method.getName(),
                    !publicNames.contains(method.getName()));
            }
        }
        all.add(TakeDesk.class);
        for (Class<?> type : all) {
            int fields = 0;
            for (Field field : type.getDeclaredFields()) {
                boolean isStatic = Modifier.isStatic(field.getModifiers());
                due.holds(field + " is final if it is static", !isStatic || Modifier.isFinal(field.getModifiers()));
                fields += isStatic ? 0 : 1;
            }
            due.holds(type + " has at most twenty fields", fields <= 20);
            for (Method method : type.getDeclaredMethods()) {
                due.holds(method + " takes at most seven", method.getParameterCount() <= 7);
            }
        }
    }

    private static void text() throws IOException {
        String source = System.getProperty("takedesk.source", "src/main/java/TakeDesk.java");
        String whole = Files.readString(Path.of(source));
        for (int i = 0; i < whole.length(); i++) {
            due.holds("characters 0 to 127", whole.charAt(i) < 128);
        }
        String code = whole.replaceAll("(?s)/\\*.*?\\*/", "").replaceAll("//[^\n]*", "");
        String words = "throw|throws|try|catch|synchronized|assert|package|static\\s*\\{|->|::|System|Object|Integer|Long"
            + "|double|float|equals|hashCode|toString|getClass|Thread|Random|null|goto|native|volatile|var|record";
        Matcher found = Pattern.compile("(?<![A-Za-z_])(" + words + ")(?![A-Za-z_])").matcher(code);
        due.holds("no word that is ruled out", !found.find());
        Matcher imports = Pattern.compile("import ([^;]*);").matcher(code);
        while (imports.find()) {
            due.holds("import of " + imports.group(1), imports.group(1).equals("java.util.Arrays"));
        }
        Matcher calls = Pattern.compile("(?:Arrays|Math)\\.[A-Za-z]+").matcher(code);
        while (calls.find()) {
            due.holds("library: " + calls.group(), List.of(LIBRARY).contains(calls.group()));
        }
        methodLengths(whole.split("\n"));
        onlyConstructorsMake(code.split("\n"));
    }

    /** All calls of a run share one room: what a desk needs is made with it, so that no call can fill the room. */
    private static void onlyConstructorsMake(String[] lines) {
        Pattern head = Pattern.compile("^( {4}| {8})(public |private )?(static )?([A-Za-z].*)\\) \\{$");
        Pattern constructor = Pattern.compile("[A-Z]\\w*\\(.*");
        Pattern makes = Pattern.compile("\\bnew\\b|\\bclone\\(|\\bcopyOf");
        String indent = null;
        boolean mayMake = false;
        int constructors = 0;
        for (String line : lines) {
            Matcher opens = head.matcher(line);
            if (indent == null && opens.matches()) {
                indent = opens.group(1);
                mayMake = constructor.matcher(opens.group(4)).matches();
                constructors += mayMake ? 1 : 0;
            } else if (indent != null && line.equals(indent + "}")) {
                indent = null;
            } else if (indent != null && !mayMake) {
                due.holds("no method makes an object: " + line.trim(), !makes.matcher(line).find());
            }
        }
        due.holds("the constructors are seen", constructors > 0);
    }

    private static void methodLengths(String[] lines) {
        Pattern head = Pattern.compile("^( {4}| {8})[A-Za-z].*\\) \\{$");
        int begin = -1;
        String indent = "";
        for (int n = 0; n < lines.length; n++) {
            Matcher opens = head.matcher(lines[n]);
            if (begin < 0 && opens.matches()) {
                begin = n;
                indent = opens.group(1);
            } else if (begin >= 0 && lines[n].equals(indent + "}")) {
                due.holds("at most sixty lines: " + lines[begin].trim(), n - begin < 60);
                begin = -1;
            }
        }
        due.holds("the last method ends", begin < 0);
    }
}
