import java.lang.reflect.Constructor;
import java.lang.reflect.Field;
import java.lang.reflect.Member;
import java.lang.reflect.Method;
import java.lang.reflect.Modifier;
import java.util.ArrayList;
import java.util.Arrays;
import java.util.List;
import java.util.TreeSet;

/** The face of the class: what the document names, and no other member that can be seen. */
public final class FaceTest {
    /** The methods with the exceptions that they name, in the order of the document. */
    private static final String[] METHODS = {
        "int addJunction() throws IllegalStateException",
        "int addRoad(int,int,int)"
                + " throws IndexOutOfBoundsException,IllegalArgumentException,IllegalStateException",
        "int setWeight(int,int) throws IndexOutOfBoundsException,IllegalArgumentException",
        "int setOpen(int,boolean) throws IndexOutOfBoundsException",
        "int setTurn(int,int,int) throws IndexOutOfBoundsException,IllegalArgumentException",
        "int setUTurn(int) throws IllegalArgumentException",
        "int junctionCount()",
        "int roadCount()",
        "int weight(int) throws IndexOutOfBoundsException",
        "boolean isOpen(int) throws IndexOutOfBoundsException",
        "int turnPenalty(int,int) throws IndexOutOfBoundsException,IllegalArgumentException",
        "int prepare() throws IllegalStateException",
        "boolean isPrepared()",
        "int position(int) throws IllegalStateException,IndexOutOfBoundsException",
        "int arcCount()",
        "boolean hasArc(int,int) throws IllegalStateException,IndexOutOfBoundsException",
        "int arcCost(int,int)"
                + " throws IllegalStateException,IndexOutOfBoundsException,NoSuchElementException",
        "int distance(int,int) throws IllegalStateException,IndexOutOfBoundsException",
        "int distanceBehind(int,int) throws IllegalStateException,IndexOutOfBoundsException",
        "int route(int,int)"
                + " throws IllegalStateException,IndexOutOfBoundsException,NoSuchElementException",
        "int routeRoad(int) throws IndexOutOfBoundsException",
        "int routeCost()",
        "int reach(int,int)"
                + " throws IllegalStateException,IndexOutOfBoundsException,IllegalArgumentException",
        "int reached(int) throws IndexOutOfBoundsException",
        "double averageDistance(int) throws IllegalStateException,IndexOutOfBoundsException",
        "int detour(int,int,int)"
                + " throws IllegalStateException,IndexOutOfBoundsException,NoSuchElementException",
        "boolean setPlace(int,int,boolean) throws IndexOutOfBoundsException",
        "int nearest(int,int)"
                + " throws IllegalStateException,IndexOutOfBoundsException,NoSuchElementException",
        "int push() throws IllegalStateException",
        "int pop() throws IllegalStateException",
        "long digest()"
    };

    private static final Check check = new Check();

    public static void main(String[] args) {
        theClass();
        theMethods();
        theConstants();
        theClassesInside();
        check.finish("FaceTest");
    }

    private static boolean isHidden(Member member) {
        return Modifier.isPrivate(member.getModifiers()) || member.isSynthetic();
    }

    private static void theClass() {
        check.same("public and final", RoadOracle.class.getModifiers(), Modifier.PUBLIC | Modifier.FINAL);
        check.same("no package", RoadOracle.class.getPackageName().isEmpty(), true);
        check.same("no superclass", RoadOracle.class.getSuperclass() == Object.class, true);
        check.same("no interface", RoadOracle.class.getInterfaces().length, 0);
        Constructor<?>[] constructors = RoadOracle.class.getDeclaredConstructors();
        check.same("one constructor", constructors.length, 1);
        check.same("it is public", constructors[0].getModifiers(), Modifier.PUBLIC);
        check.same("without parameters", constructors[0].getParameterCount(), 0);
    }

    private static void theMethods() {
        TreeSet<String> due = new TreeSet<>(Arrays.asList(METHODS));
        TreeSet<String> got = new TreeSet<>();
        TreeSet<String> names = new TreeSet<>();
        for (Method method : RoadOracle.class.getDeclaredMethods()) {
            if (!isHidden(method)) {
                check.same(method + " is public", method.getModifiers(), Modifier.PUBLIC);
                got.add(signature(method));
                names.add(method.getName());
            }
        }
        if (!got.equals(due)) {
            check.complain("the methods are " + got + ", due are " + due);
        }
        List<Class<?>> classes = new ArrayList<>(List.of(RoadOracle.class.getDeclaredClasses()));
        classes.add(RoadOracle.class);
        for (Class<?> inside : classes) {
            for (Method method : inside.getDeclaredMethods()) {
                boolean isFace = inside == RoadOracle.class && !isHidden(method);
                check.same(method + " bears a public name", !isFace && names.contains(method.getName()), false);
            }
        }
    }

    private static String signature(Method method) {
        StringBuilder text = new StringBuilder();
        for (Class<?> type : method.getParameterTypes()) {
            text.append(text.length() == 0 ? "" : ",").append(type.getSimpleName());
        }
        StringBuilder exceptions = new StringBuilder();
        for (Class<?> type : method.getExceptionTypes()) {
            exceptions.append(exceptions.length() == 0 ? " throws " : ",").append(type.getSimpleName());
        }
        return method.getReturnType().getSimpleName() + " " + method.getName() + "(" + text + ")"
                + exceptions;
    }

    private static void theConstants() {
        check.same("FORBIDDEN", RoadOracle.FORBIDDEN, -1);
        check.same("DEFAULT", RoadOracle.DEFAULT, -2);
        int constant = Modifier.PUBLIC | Modifier.STATIC | Modifier.FINAL;
        int seen = 0;
        for (Field field : RoadOracle.class.getDeclaredFields()) {
            if (!isHidden(field)) {
                check.same(field + " is a constant", field.getModifiers(), constant);
                check.same(field + " is an int", field.getType() == int.class, true);
                seen++;
            }
            if (Modifier.isStatic(field.getModifiers())) {
                check.same(field + " is final", Modifier.isFinal(field.getModifiers()), true);
            }
        }
        check.same("visible fields", seen, 2);
    }

    private static void theClassesInside() {
        for (Class<?> inside : RoadOracle.class.getDeclaredClasses()) {
            int modifiers = inside.getModifiers();
            check.same(inside + " is static", Modifier.isStatic(modifiers), true);
            check.same(inside + " is seen from outside",
                    Modifier.isPublic(modifiers) || Modifier.isProtected(modifiers), false);
        }
    }
}
