import java.lang.reflect.Constructor;
import java.lang.reflect.Field;
import java.lang.reflect.Method;
import java.lang.reflect.Modifier;
import java.util.ArrayList;
import java.util.List;
import java.util.Set;
import java.util.TreeSet;

/** The public face is the one of the document, and nothing else of the class can be seen. */
public final class FaceTest {
    private static final String[] FACE = {
        "int clear()",
        "int append(int) IllegalArgumentException IllegalStateException",
        "int add(int,int) NoSuchElementException IndexOutOfBoundsException IllegalArgumentException"
            + " UnsupportedOperationException",
        "int clone(int,int,int) NoSuchElementException IndexOutOfBoundsException UnsupportedOperationException",
        "int detach(int,int) NoSuchElementException IndexOutOfBoundsException",
        "int moveBlock(int,int,int,int,int) NoSuchElementException IndexOutOfBoundsException"
            + " UnsupportedOperationException",
        "int indent(int) NoSuchElementException IllegalStateException UnsupportedOperationException",
        "int outdent(int) NoSuchElementException IllegalStateException UnsupportedOperationException",
        "int rename(int) NoSuchElementException IllegalArgumentException",
        "int setNumber(int,boolean,int) NoSuchElementException IllegalArgumentException",
        "boolean setFlag(int,boolean,boolean) NoSuchElementException",
        "int item(int,int) NoSuchElementException IllegalArgumentException",
        "int related(int,int,boolean) NoSuchElementException IndexOutOfBoundsException",
        "char letter(int,int) NoSuchElementException IndexOutOfBoundsException",
        "boolean isBelow(int,int) NoSuchElementException",
        "int outline(int) IllegalArgumentException",
        "float doneShare(int) NoSuchElementException",
        "double meanValue(int) NoSuchElementException",
        "int hoist(int) NoSuchElementException IllegalStateException",
        "int unhoist() IllegalStateException",
        "int filter() IllegalArgumentException",
        "int line(int,int) NoSuchElementException IllegalArgumentException",
        "char path(int,int) NoSuchElementException IndexOutOfBoundsException",
        "int lineOf(int)",
        "int load(int) NoSuchElementException IllegalArgumentException UnsupportedOperationException",
        "int errorPosition() IllegalStateException",
        "int refusal(int) IllegalStateException IndexOutOfBoundsException",
        "boolean isConsistent()",
        "int undo() IllegalStateException",
        "int snapshot()",
        "int restore() IllegalStateException",
    };

    private static final List<String> faults = new ArrayList<>();

    public static void main(String[] args) {
        checkClass();
        checkMethods();
        checkFields();
        checkNestedClasses();
        for (String fault : faults) {
            System.out.println(fault);
        }
        System.out.println("FaceTest: " + faults.size() + " faults");
        if (!faults.isEmpty()) {
            System.exit(1);
        }
    }

    private static void checkClass() {
        int modifiers = CloneOutliner.class.getModifiers();
        expect(Modifier.isPublic(modifiers) && Modifier.isFinal(modifiers), "the class is not public and final");
        Constructor<?>[] constructors = CloneOutliner.class.getDeclaredConstructors();
        expect(constructors.length == 1 && Modifier.isPublic(constructors[0].getModifiers())
            && constructors[0].getParameterCount() == 0, "the constructor is not the one of the document");
    }

    private static void checkMethods() {
        Set<String> due = new TreeSet<>(List.of(FACE));
        Set<String> names = publicNames();
        for (Method method : CloneOutliner.class.getDeclaredMethods()) {
            if (Modifier.isPublic(method.getModifiers())) {
                expect(due.remove(describe(method)), "not in the document: " + describe(method));
                expect(!Modifier.isStatic(method.getModifiers()), "static: " + describe(method));
            }
        }
        expect(due.isEmpty(), "missing: " + due);
        for (Method method : CloneOutliner.class.getDeclaredMethods()) {
            if (!Modifier.isPublic(method.getModifiers())) {
                expect(Modifier.isPrivate(method.getModifiers()), "not private: " + method.getName());
                expect(!names.contains(method.getName()), "bears a public name: " + method.getName());
            }
        }
    }

    private static Set<String> publicNames() {
        Set<String> names = new TreeSet<>();
        for (Method method : CloneOutliner.class.getDeclaredMethods()) {
            if (Modifier.isPublic(method.getModifiers())) {
                names.add(method.getName());
            }
        }
        return names;
    }

    private static String describe(Method method) {
        StringBuilder text = new StringBuilder();
        text.append(method.getReturnType()).append(' ').append(method.getName()).append('(');
        String comma = "";
        for (Class<?> type : method.getParameterTypes()) {
            text.append(comma).append(type);
            comma = ",";
        }
        text.append(')');
        for (Class<?> type : method.getExceptionTypes()) {
            text.append(' ').append(type.getSimpleName());
        }
        return text.toString();
    }

    private static void checkFields() {
        List<Class<?>> classes = new ArrayList<>(List.of(CloneOutliner.class.getDeclaredClasses()));
        classes.add(CloneOutliner.class);
        for (Class<?> type : classes) {
            for (Field field : type.getDeclaredFields()) {
                int modifiers = field.getModifiers();
                expect(Modifier.isPrivate(modifiers), "not private: " + field);
                expect(!Modifier.isStatic(modifiers) || Modifier.isFinal(modifiers), "static, not final: " + field);
            }
        }
    }

    private static void checkNestedClasses() {
        Class<?>[] classes = CloneOutliner.class.getDeclaredClasses();
        expect(classes.length + 1 <= 12, "more than twelve classes");
        for (Class<?> type : classes) {
            expect(Modifier.isStatic(type.getModifiers()) && Modifier.isPrivate(type.getModifiers()),
                "not private and static: " + type);
            for (Method method : type.getDeclaredMethods()) {
                expect(!publicNames().contains(method.getName()), "bears a public name: " + method);
            }
        }
    }

    private static void expect(boolean isSo, String fault) {
        if (!isSo) {
            faults.add(fault);
        }
    }
}
