import java.io.IOException;
import java.lang.reflect.Constructor;
import java.lang.reflect.Field;
import java.lang.reflect.Method;
import java.lang.reflect.Modifier;
import java.nio.file.Files;
import java.nio.file.Path;
import java.util.Arrays;
import java.util.Set;
import java.util.TreeSet;
import java.util.regex.Matcher;
import java.util.regex.Pattern;

/** The public face of the document, and those rules of LANGUAGE.md that can be read off the file. */
public final class FaceTest {
    private static final String[] METHODS = {
        "boolean way(int,int,int,int)", "boolean relief(int,boolean)", "int trip(int,int,int,int)",
        "boolean drop(int)", "boolean move(int,int)", "boolean laws(int,int,int,boolean)",
        "int tripOf(int,int)", "int may(int,int)", "int goesOn()", "int plan(int)", "int block(int,int)",
        "int planned(int,int)", "int segment(int,int)", "int clash(int,int,int,int)", "int roster()",
        "int duty(int,int)", "int apart()", "int saves(int,int)", "int about(int)"};
    private static final String[] FORBIDDEN = {"throw", "throws", "try", "catch", "synchronized", "assert",
        "protected", "native", "volatile", "transient", "package", "var", "System\\.out", "Random",
        "equals", "hashCode", "toString", "static\\s*\\{", "->", "::", "\\w+Exact"};
    private static int wrong = 0;

    private FaceTest() {
    }

    public static void main(String[] args) throws IOException {
        face();
        names(BusBlocks.class, publicNames());
        rules(Files.readString(Path.of(args[0])));
        System.out.println("the face and the file: " + wrong + " wrong");
        if (wrong != 0) {
            System.exit(1);
        }
    }

    private static void hold(boolean it, String what) {
        if (!it) {
            wrong++;
            System.out.println(what);
        }
    }

    private static void face() {
        int ofClass = BusBlocks.class.getModifiers();
        hold(Modifier.isPublic(ofClass) && Modifier.isFinal(ofClass), "the class is not public and final");
        Set<String> seen = new TreeSet<>();
        for (Method m : BusBlocks.class.getDeclaredMethods()) {
            if (!Modifier.isPrivate(m.getModifiers())) {
                StringBuilder parts = new StringBuilder();
                for (Class<?> p : m.getParameterTypes()) {
                    parts.append(parts.length() == 0 ? "" : ",").append(p.getSimpleName());
                }
                seen.add(m.getReturnType().getSimpleName() + " " + m.getName() + "(" + parts + ")");
                hold(m.getModifiers() == Modifier.PUBLIC, m.getName() + " is not just public");
            }
        }
        hold(seen.equals(new TreeSet<>(Arrays.asList(METHODS))), "the methods are " + seen);
        Constructor<?>[] constructors = BusBlocks.class.getDeclaredConstructors();
        hold(constructors.length == 1 && constructors[0].getParameterCount() == 0
            && Modifier.isPublic(constructors[0].getModifiers()), "the constructor is another one");
        for (Field f : BusBlocks.class.getDeclaredFields()) {
            boolean constant = f.getName().equals("NONE") && Modifier.isPublic(f.getModifiers());
            hold(constant || Modifier.isPrivate(f.getModifiers()), "the field " + f.getName() + " is seen");
        }
        hold(BusBlocks.NONE == -1, "NONE is not -1");
    }

    private static Set<String> publicNames() {
        Set<String> names = new TreeSet<>();
        for (String m : METHODS) {
            names.add(m.substring(m.indexOf(' ') + 1, m.indexOf('(')));
        }
        return names;
    }

    /** Names, numbers of fields and of parameters, and static state of each class inside. */
    private static void names(Class<?> outer, Set<String> taken) {
        Class<?>[] inside = outer.getDeclaredClasses();
        hold(inside.length < 12, "there are " + inside.length + " classes inside");
        for (Class<?> c : inside) {
            hold(Modifier.isStatic(c.getModifiers()), c + " is not static");
            hold(c.getDeclaredClasses().length == 0, c + " has classes inside");
            for (Method m : c.getDeclaredMethods()) {
                hold(!taken.contains(m.getName()), m + " bears the name of a public one");
                hold(m.getParameterCount() <= 7, m + " takes too many parameters");
            }
            int fields = 0;
            for (Field f : c.getDeclaredFields()) {
                fields += Modifier.isStatic(f.getModifiers()) ? 0 : 1;
                boolean state = Modifier.isStatic(f.getModifiers()) && !Modifier.isFinal(f.getModifiers());
                hold(!state, f + " is static state");
            }
            hold(fields <= 20, c + " has " + fields + " fields");
        }
    }

    private static void rules(String text) {
        for (int i = 0; i < text.length(); i++) {
            hold(text.charAt(i) < 128, "a sign above 127 at " + i);
        }
        String code = text.replaceAll("(?s)/\\*.*?\\*/", "").replaceAll("//[^\n]*", "");
        for (String word : FORBIDDEN) {
            String bounded = Character.isLetter(word.charAt(0)) ? "\\b" + word + "\\b" : word;
            Matcher found = Pattern.compile(bounded).matcher(code);
            hold(!found.find(), "the file has " + word);
        }
        Matcher imports = Pattern.compile("import ([^;]+);").matcher(code);
        while (imports.find()) {
            hold(imports.group(1).equals("java.util.Arrays"), "the file imports " + imports.group(1));
        }
        Matcher makes = Pattern.compile("\n( +)(?:private |static |final |public )*"
            + "[\\w\\[\\]]+ \\w+\\([^;{]*\\) \\{(.*?)\n\\1\\}", Pattern.DOTALL).matcher(code);
        int methods = 0;
        while (makes.find()) {
            methods++;
            hold(makes.group(2).split("\n").length <= 60, "a long method:" + makes.group());
            hold(!Pattern.compile("\\bnew\\b").matcher(makes.group(2)).find(),
                "a method makes objects, so that calls fill the room:" + makes.group());
        }
        hold(methods > 60, "only " + methods + " methods were found");
    }
}
