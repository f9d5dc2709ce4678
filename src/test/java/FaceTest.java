import java.lang.reflect.Constructor;
import java.lang.reflect.Field;
import java.lang.reflect.Method;
import java.lang.reflect.Modifier;
import java.util.ArrayList;
import java.util.Arrays;
import java.util.Collections;
import java.util.HashSet;
import java.util.List;
import java.util.Set;

/** The class has the document's public face, and nothing else of it can be reached (LANGUAGE.md, rule 1). */
public final class FaceTest {
    private static final Checks CHECKS = new Checks();

    private static final String[] FACE = {
        "void begin() throws IllegalStateException",
        "int commit() throws IllegalStateException",
        "void abort() throws IllegalStateException",
        "long add(int,long) throws IllegalStateException,IndexOutOfBoundsException",
        "int push(long) throws IllegalStateException,UnsupportedOperationException",
        "long pop() throws IllegalStateException,UnsupportedOperationException",
        "int put(long,long) throws IllegalStateException,UnsupportedOperationException",
        "boolean cut(long) throws IllegalStateException",
        "long next(long,boolean) throws IllegalStateException,IndexOutOfBoundsException",
        "long counter(int) throws IllegalStateException,IndexOutOfBoundsException",
        "long queued(int) throws IllegalStateException,IndexOutOfBoundsException",
        "void freeze(int) throws IllegalStateException,IndexOutOfBoundsException",
        "long frozen(int,boolean,long) throws IndexOutOfBoundsException",
        "void crash(int) throws IllegalStateException",
        "boolean stop(int,int)",
        "int recover() throws IllegalStateException",
        "long word(int,boolean) throws IndexOutOfBoundsException",
        "int loose(int)",
        "int look(int)",
        "int audit()",
    };

    public static void main(String[] args) {
        CHECKS.is("NONE", WordShelf.NONE, -1);
        CHECKS.is("the class is public and final",
                WordShelf.class.getModifiers() == (Modifier.PUBLIC | Modifier.FINAL), true);
        checkMethods();
        checkFields();
        checkConstructors();
        checkNestedClasses();
        CHECKS.end();
    }

    private static void checkMethods() {
        List<String> found = new ArrayList<>();
        for (Method m : WordShelf.class.getDeclaredMethods()) {
            if (Modifier.isPublic(m.getModifiers())) {
                found.add(describe(m));
            } else {
                CHECKS.is(m.getName() + " is private", Modifier.isPrivate(m.getModifiers()), true);
            }
        }
        List<String> due = new ArrayList<>(Arrays.asList(FACE));
        Collections.sort(found);
        Collections.sort(due);
        CHECKS.same("the public methods", found, due);
    }

    private static String describe(Method m) {
        StringBuilder text = new StringBuilder();
        text.append(m.getReturnType().getSimpleName()).append(' ').append(m.getName());
        text.append('(').append(names(m.getParameterTypes())).append(')');
        if (m.getExceptionTypes().length > 0) {
            text.append(" throws ").append(names(m.getExceptionTypes()));
        }
        return text.toString();
    }

    private static String names(Class<?>[] types) {
        List<String> names = new ArrayList<>();
        for (Class<?> type : types) {
            names.add(type.getSimpleName());
        }
        return String.join(",", names);
    }

    private static void checkFields() {
        for (Field f : WordShelf.class.getDeclaredFields()) {
            boolean isPublic = Modifier.isPublic(f.getModifiers());
            CHECKS.is(f.getName() + " is public", isPublic, f.getName().equals("NONE"));
            CHECKS.is(f.getName() + " is public or private",
                    isPublic || Modifier.isPrivate(f.getModifiers()), true);
            if (Modifier.isStatic(f.getModifiers())) {
                CHECKS.is(f.getName() + " is final", Modifier.isFinal(f.getModifiers()), true);
            }
        }
    }

    private static void checkConstructors() {
        Constructor<?>[] constructors = WordShelf.class.getDeclaredConstructors();
        CHECKS.is("constructors", constructors.length, 1);
        CHECKS.is("the constructor is public", Modifier.isPublic(constructors[0].getModifiers()), true);
        CHECKS.is("the constructor's parameters", constructors[0].getParameterCount(), 0);
    }

    private static void checkNestedClasses() {
        Set<String> taken = new HashSet<>();
        for (Method m : WordShelf.class.getMethods()) {
            taken.add(m.getName());
        }
        List<Class<?>> all = new ArrayList<>(Arrays.asList(WordShelf.class.getDeclaredClasses()));
        for (Class<?> c : all) {
            CHECKS.is(c.getName() + " is static", Modifier.isStatic(c.getModifiers()), true);
            CHECKS.is(c.getName() + " is hidden",
                    (c.getModifiers() & (Modifier.PUBLIC | Modifier.PROTECTED)) == 0, true);
        }
        all.add(WordShelf.class);
        for (Class<?> c : all) {
            for (Method m : c.getDeclaredMethods()) {
                boolean clash = Modifier.isPrivate(m.getModifiers()) && taken.contains(m.getName());
                CHECKS.is(c.getName() + "." + m.getName() + " bears a public name", clash, false);
            }
        }
    }
}
