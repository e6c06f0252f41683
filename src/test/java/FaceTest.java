import java.lang.reflect.Constructor;
import java.lang.reflect.Field;
import java.lang.reflect.Member;
import java.lang.reflect.Method;
import java.lang.reflect.Modifier;
import java.util.ArrayList;
import java.util.Arrays;
import java.util.List;
import java.util.TreeSet;

/** The face of the class: what the document names, and no other member that can be seen. */
public final class FaceTest {
    private static final String[] METHODS = {
        "int addJunction()", "int addRoad(int,int,int)", "int setWeight(int,int)",
        "int setOpen(int,boolean)", "int setTurn(int,int,int)", "int setUTurn(int)",
        "int junctionCount()", "int roadCount()", "int weight(int)", "boolean isOpen(int)",
        "int turnPenalty(int,int)", "int prepare()", "boolean isPrepared()", "int position(int)",
        "int arcCount()", "boolean hasArc(int,int)", "int arcCost(int,int)",
        "int distance(int,int)", "int distanceBehind(int,int)", "int route(int,int)",
        "int routeRoad(int)", "int routeCost()", "int reach(int,int)", "int reached(int)",
        "double averageDistance(int)", "int detour(int,int,int)",
        "boolean setPlace(int,int,boolean)", "int nearest(int,int)", "int push()", "int pop()",
        "long digest()"
    };

    private static final Check check = new Check();

    public static void main(String[] args) {
        theClass();
        theMethods();
        theConstants();
        theClassesInside();
        check.finish("FaceTest");
    }

    private static boolean isHidden(Member member) {
        return Modifier.isPrivate(member.getModifiers()) || member.isSynthetic();
    }

    private static void theClass() {
        check.same("public and final", RoadOracle.class.getModifiers(), Modifier.PUBLIC | Modifier.FINAL);
        check.same("no package", RoadOracle.class.getPackageName().isEmpty(), true);
        check.same("no superclass", RoadOracle.class.getSuperclass() == Object.class, true);
        check.same("no interface", RoadOracle.class.getInterfaces().length, 0);
        Constructor<?>[] constructors = RoadOracle.class.getDeclaredConstructors();
        check.same("one constructor", constructors.length, 1);
        check.same("it is public", constructors[0].getModifiers(), Modifier.PUBLIC);
        check.same("without parameters", constructors[0].getParameterCount(), 0);
    }

    private static void theMethods() {
        TreeSet<String> due = new TreeSet<>(Arrays.asList(METHODS));
        TreeSet<String> got = new TreeSet<>();
        TreeSet<String> names = new TreeSet<>();
        for (Method method : RoadOracle.class.getDeclaredMethods()) {
            if (!isHidden(method)) {
                check.same(method + " is public", method.getModifiers(), Modifier.PUBLIC);
                got.add(signature(method));
                names.add(method.getName());
            }
        }
        if (!got.equals(due)) {
            check.complain("the methods are " + got + ", due are " + due);
        }
        List<Class<?>> classes = new ArrayList<>(List.of(RoadOracle.class.getDeclaredClasses()));
        classes.add(RoadOracle.class);
        for (Class<?> inside : classes) {
            for (Method method : inside.getDeclaredMethods()) {
                boolean isFace = inside == RoadOracle.class && !isHidden(method);
                check.same(method + " bears a public name", !isFace && names.contains(method.getName()), false);
            }
        }
    }

    private static String signature(Method method) {
        StringBuilder text = new StringBuilder();
        for (Class<?> type : method.getParameterTypes()) {
            text.append(text.length() == 0 ? "" : ",").append(type.getSimpleName());
        }
        return method.getReturnType().getSimpleName() + " " + method.getName() + "(" + text + ")";
    }

    private static void theConstants() {
        check.same("FORBIDDEN", RoadOracle.FORBIDDEN, -1);
        check.same("DEFAULT", RoadOracle.DEFAULT, -2);
        int constant = Modifier.PUBLIC | Modifier.STATIC | Modifier.FINAL;
        int seen = 0;
        for (Field field : RoadOracle.class.getDeclaredFields()) {
            if (!isHidden(field)) {
                check.same(field + " is a constant", field.getModifiers(), constant);
                seen++;
            }
            if (Modifier.isStatic(field.getModifiers())) {
                check.same(field + " is final", Modifier.isFinal(field.getModifiers()), true);
            }
        }
        check.same("visible fields", seen, 2);
    }

    private static void theClassesInside() {
        for (Class<?> inside : RoadOracle.class.getDeclaredClasses()) {
            int modifiers = inside.getModifiers();
            check.same(inside + " is static", Modifier.isStatic(modifiers), true);
            check.same(inside + " is seen from outside",
                    Modifier.isPublic(modifiers) || Modifier.isProtected(modifiers), false);
        }
    }
}
