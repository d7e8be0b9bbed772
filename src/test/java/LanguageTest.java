import java.io.PrintWriter;
import java.io.StringWriter;
import java.lang.reflect.Constructor;
import java.lang.reflect.Field;
import java.lang.reflect.Method;
import java.lang.reflect.Modifier;
import java.nio.file.Path;
import java.util.ArrayList;
import java.util.List;
import java.util.Set;
import java.util.TreeSet;
import java.util.regex.Matcher;
import java.util.regex.Pattern;
import java.util.spi.ToolProvider;

/** The public face (LANGUAGE.md, rule 1), and what other rules keep out, looked for in the compiled class. */
public final class LanguageTest {
    private static final Set<String> FACE = Set.of(
        "int row(boolean,int,int)", "int share(boolean,int,int)", "int drop(boolean,int)",
        "int set(boolean,int,int,long)", "int get(boolean,int,int)", "int wrap(boolean,int,int,int)",
        "int effect(int,int,long)", "int make(int,long)", "int rack(int,int)", "int hang(int,int,int)",
        "int take(int,int,int,int)", "int head(int,int,int,int,long)", "int play(int,int)", "int failed()",
        "int mix(int,int)", "int hush()", "int at(int,int)", "int clock(long,int)", "long told()");
    private static final Set<String> LIBRARY = Set.of(
        "java/lang/Object.\"<init>\":()V", "java/lang/Math.max:(II)I");
    private static final int MOST_CLASSES = 12;
    private static final int MOST_FIELDS = 20;

    private static int wrong = 0;

    private static void rule(int number, boolean kept, String what) {
        if (!kept) {
            wrong++;
            System.out.println("rule " + number + ": " + what);
        }
    }

    private static String signature(Method method) {
        List<String> types = new ArrayList<>();
        for (Class<?> type : method.getParameterTypes()) {
            types.add(type.getName());
        }
        return method.getReturnType().getName() + " " + method.getName() + "(" + String.join(",", types) + ")";
    }

    private static void face() {
        Set<String> open = new TreeSet<>();
        Set<String> publicNames = new TreeSet<>();
        for (Method method : LoopMixer.class.getDeclaredMethods()) {
            if (!Modifier.isPrivate(method.getModifiers())) {
                open.add(signature(method));
                publicNames.add(method.getName());
                rule(1, Modifier.isPublic(method.getModifiers()), method + " is not public");
                rule(6, method.getExceptionTypes().length == 0, method + " throws");
            }
        }
        rule(1, open.equals(FACE), "the face is " + open);
        for (Method method : LoopMixer.class.getDeclaredMethods()) {
            rule(1, !Modifier.isPrivate(method.getModifiers()) || !publicNames.contains(method.getName()),
                method + " has a public one's name");
        }
        Constructor<?>[] constructors = LoopMixer.class.getDeclaredConstructors();
        rule(1, constructors.length == 1 && constructors[0].getParameterCount() == 0
            && Modifier.isPublic(constructors[0].getModifiers()), "the constructor");
        rule(1, Modifier.isPublic(LoopMixer.class.getModifiers()) && Modifier.isFinal(LoopMixer.class.getModifiers()),
            "the class is not public and final");
        for (Field field : LoopMixer.class.getDeclaredFields()) {
            boolean bad = field.getName().equals("BAD");
            rule(1, bad ? Modifier.isPublic(field.getModifiers()) : Modifier.isPrivate(field.getModifiers()),
                field + " is open");
        }
    }

    private static void classes(List<Class<?>> all) {
        rule(11, all.size() <= MOST_CLASSES, all.size() + " classes");
        for (Class<?> type : all) {
            int fields = 0;
            for (Field field : type.getDeclaredFields()) {
                boolean still = Modifier.isStatic(field.getModifiers());
                fields += still ? 0 : 1;
                rule(5, !still || Modifier.isFinal(field.getModifiers()), field + " is not final");
                rule(5, !still || Set.of("int", "long", "boolean", "char").contains(field.getType().getName()),
                    field + " is no constant of the listed types");
            }
            rule(11, fields <= MOST_FIELDS, type + " has " + fields + " fields");
            rule(1, type == LoopMixer.class || Modifier.isStatic(type.getModifiers())
                && !Modifier.isPublic(type.getModifiers()) && !Modifier.isProtected(type.getModifiers()),
                type + " is open or not static");
            for (Method method : type.getDeclaredMethods()) {
                rule(11, method.getParameterCount() <= 7, method + " has too many parameters");
                rule(10, !Modifier.isSynchronized(method.getModifiers()), method + " is synchronized");
            }
        }
    }

    private static String code(List<Class<?>> all) throws Exception {
        Path home = Path.of(LoopMixer.class.getProtectionDomain().getCodeSource().getLocation().toURI());
        List<String> args = new ArrayList<>(List.of("-c", "-p", "-cp", home.toString()));
        for (Class<?> type : all) {
            args.add(type.getName());
        }
        StringWriter text = new StringWriter();
        PrintWriter out = new PrintWriter(text);
        int exit = ToolProvider.findFirst("javap").orElseThrow().run(out, out, args.toArray(new String[0]));
        rule(0, exit == 0, "javap ended with " + exit);
        return text.toString();
    }

    private static void instructions(String code) {
        rule(0, code.contains("dmul") && code.contains("ireturn"), "javap showed no code");
        for (String banned : new String[] {"frem", "drem"}) {
            rule(3, !code.contains(banned), banned);
        }
        for (String banned : new String[] {"athrow", "Exception table", "monitorenter"}) {
            rule(6, !code.contains(banned), banned);
        }
        rule(2, !code.contains("invokedynamic"), "invokedynamic");
        Matcher used = Pattern.compile("// (?:Interface)?Method (java\\S+)").matcher(code);
        while (used.find()) {
            rule(4, LIBRARY.contains(used.group(1)), used.group(1));
        }
    }

    public static void main(String[] args) throws Exception {
        List<Class<?>> all = new ArrayList<>(List.of(LoopMixer.class.getDeclaredClasses()));
        all.add(LoopMixer.class);
        face();
        classes(all);
        instructions(code(all));
        System.out.println(wrong == 0 ? "the rules are kept" : wrong + " rules are not kept");
        if (wrong != 0) {
            System.exit(1);
        }
    }
}
