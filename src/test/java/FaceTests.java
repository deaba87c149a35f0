import java.lang.management.ManagementFactory;
import java.lang.reflect.Constructor;
import java.lang.reflect.Field;
import java.lang.reflect.Method;
import java.lang.reflect.Modifier;
import java.nio.file.Files;
import java.nio.file.Path;
import java.util.Set;
import java.util.TreeSet;

/** The public face of the document, and those rules of LANGUAGE.md that a program can look after. */
public final class FaceTests {
    private static final String[] METHODS = {
        "setIndividuals/1", "setPredicate/2", "setPair/4", "individuals/0", "predicate/1", "relationHolds/3",
        "type/1", "clearText/0", "syntaxFault/0", "unknownVariable/0", "unknownDepth/0", "partCount/0",
        "contextSize/0", "known/0", "objects/1", "together/4", "resetContext/0", "setAccommodation/1",
        "accept/0", "acceptable/0", "failingAt/0", "accommodated/0", "accommodatedPart/1",
        "sizeBehind/1", "supports/0", "worldsTrue/0", "historySize/0", "undo/0"};
    private static final String[] CONSTANTS = {
        "INVALID_ARGUMENT=-1", "SYNTAX_FAULT=-2", "UNKNOWN_VARIABLE=-3", "PRESUPPOSITION_FAILS=-4",
        "CAPACITY_EXCEEDED=-5", "ILLEGAL_STATE=-6", "NONE=-7"};
    private static final String[] RULED_OUT = {
        "throw", "throws", "try", "catch", "synchronized", "assert", "import", "package", "protected", "System", "Object"};

    private static int wrong = 0;

    private static void due(String what, Object got, Object want) {
        if (!got.equals(want)) {
            wrong++;
            System.out.println(what + " is " + got + ", due is " + want);
        }
    }

    public static void main(String[] arguments) throws Exception {
        theMembers();
        theClassesInside();
        theSource(Path.of("src/main/java/DiscourseContexts.java"));
        theRoomThatCallsTake();
        System.out.println(wrong == 0 ? "all answers are as due" : wrong + " answers are not as due");
        if (wrong != 0) System.exit(1);
    }

    private static void theMembers() throws IllegalAccessException {
        Set<String> methods = new TreeSet<>();
        Set<String> constants = new TreeSet<>();
        for (Method method : DiscourseContexts.class.getDeclaredMethods()) {
            if (Modifier.isPrivate(method.getModifiers())) continue;
            methods.add(method.getName() + "/" + method.getParameterCount());
            due("the modifiers of " + method.getName(), method.getModifiers(), Modifier.PUBLIC);
            due("the type of " + method.getName(), method.getReturnType(), int.class);
            for (Class<?> type : method.getParameterTypes()) due("a parameter of " + method.getName(), type, int.class);
        }
        for (Field field : DiscourseContexts.class.getDeclaredFields()) {
            if (Modifier.isPrivate(field.getModifiers())) continue;
            due("the modifiers of " + field.getName(), field.getModifiers(), Modifier.PUBLIC | Modifier.STATIC | Modifier.FINAL);
            due("the type of " + field.getName(), field.getType(), int.class);
            constants.add(field.getName() + "=" + field.get(null));
        }
        due("the methods", methods, new TreeSet<>(Set.of(METHODS)));
        due("the constants", constants, new TreeSet<>(Set.of(CONSTANTS)));
        Constructor<?>[] constructors = DiscourseContexts.class.getDeclaredConstructors();
        due("the number of constructors", constructors.length, 1);
        due("the modifiers of the constructor", constructors[0].getModifiers(), Modifier.PUBLIC);
        due("the parameters of the constructor", constructors[0].getParameterCount(), 0);
        due("the modifiers of the class", DiscourseContexts.class.getModifiers(), Modifier.PUBLIC | Modifier.FINAL);
    }

    private static void theClassesInside() {
        Set<String> face = new TreeSet<>();
        for (String method : METHODS) face.add(method.substring(0, method.indexOf('/')));
        Class<?>[] inside = DiscourseContexts.class.getDeclaredClasses();
        due("at most twelve classes", inside.length + 1 <= 12, true);
        for (Class<?> type : inside) {
            int modifiers = type.getModifiers();
            due(type + " is static", Modifier.isStatic(modifiers), true);
            due(type + " is private", Modifier.isPrivate(modifiers), true);
            for (Method method : type.getDeclaredMethods()) {
                due(method + " bears a name of the face", face.contains(method.getName()), false);
            }
            for (Field field : type.getDeclaredFields()) {
                if (Modifier.isStatic(field.getModifiers())) due(field + " is final", Modifier.isFinal(field.getModifiers()), true);
            }
        }
        for (Method method : DiscourseContexts.class.getDeclaredMethods()) {
            boolean hides = Modifier.isPrivate(method.getModifiers()) && face.contains(method.getName());
            due(method + " bears a name of the face", hides, false);
        }
    }

    private static void theSource(Path source) throws Exception {
        String code = Files.readString(source)
            .replaceAll("(?s)/\\*.*?\\*/", " ")
            .replaceAll("//[^\n]*", " ")
            .replaceAll("'[^']*'", "0");
        for (String word : RULED_OUT) {
            due("the source has the word " + word, code.matches("(?s).*\\b" + word + "\\b.*"), false);
        }
        due("the source has a lambda", code.contains("->"), false);
        due("the source has a method reference", code.contains("::"), false);
        due("the source has a text", code.contains("\""), false);
        due("the source has a loop without an end", code.matches("(?s).*\\bwhile\\b.*") || code.contains("(;;)"), false);
    }

    /** All that an object needs is made in its constructor, so the calls make nothing. */
    private static void theRoomThatCallsTake() {
        DiscourseContexts d = new DiscourseContexts();
        callAll(d, 1);
        com.sun.management.ThreadMXBean threads = (com.sun.management.ThreadMXBean) ManagementFactory.getThreadMXBean();
        long id = Thread.currentThread().getId();
        long before = threads.getThreadAllocatedBytes(id);
        callAll(d, 5);
        long bytes = threads.getThreadAllocatedBytes(id) - before;
        due("at most 4096 bytes are made by the calls (made: " + bytes + ")", bytes <= 4096, true);
    }

    private static void callAll(DiscourseContexts d, int times) {
        String text = "Ex;[Ey&x<y];!(Ex|sxy>Ez&(px|#1z&z=x));[tyx|y<x]";
        for (int i = 0; i < times; i++) {
            d.clearText();
            for (int c = 0; c < text.length(); c++) d.type(text.charAt(c));
            d.setIndividuals(3);
            d.setPredicate(0, 3);
            d.setPair(0, 1, 2, 1);
            d.setAccommodation(1);
            d.syntaxFault();
            d.unknownVariable();
            d.unknownDepth();
            d.partCount();
            d.failingAt();
            d.worldsTrue();
            d.accept();
            d.supports();
            d.sizeBehind(3);
            d.accommodatedPart(0);
            d.objects(0);
            d.together(0, 1, 1, 1);
            d.relationHolds(0, 1, 2);
            d.undo();
        }
    }
}
