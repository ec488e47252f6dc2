import java.lang.reflect.Constructor;
import java.lang.reflect.Field;
import java.lang.reflect.Method;
import java.lang.reflect.Modifier;
import java.util.TreeSet;

/** The face is the document's, and no more. */
final class FaceTests {
    private static final String[] FACE = {
        "yard(int,int)", "line(int,int)", "day(int)", "feed(long,int)", "text(int,int)", "force(int,int,int)",
        "why(int,int,int)", "unlike(int,int,int,int)", "use(int,int,int,int)", "quota(int,int,int)",
        "rule(int,int,boolean)", "lean(int,int)", "appeal(int,int,int)", "term(int,int)", "fall(int,int)",
        "late(int,int)", "again(int)", "act(int,int,int)", "whose(int,int)", "ship(int,int)", "berth(int,int)",
        "leave(int,int)", "goods(int,int)", "coin(int,int,boolean)", "tariff(int,int,int)", "share()",
        "whole(int,int)", "firm(int,int)", "used(int,int)", "left(int,int)", "door(int,int,int)",
        "seen(int,int,int)", "who(int,int)", "night(int,int)", "sure(int)", "vote(int,int)", "seat(int,int)",
        "turn(int,int)", "say(int,int,int,boolean,int,boolean)", "hold(int,int)", "ask(int,int,long,long)",
        "want(int)", "judge(int,int)", "best()", "tried(int,int)", "image()", "undo()", "count(int)"
    };

    public static void main(String[] args) {
        Check check = new Check("FaceTests");
        TreeSet<String> names = new TreeSet<>();
        TreeSet<String> found = new TreeSet<>();
        for (String each : FACE) {
            names.add(each.substring(0, each.indexOf('(')));
        }
        for (Method method : FreeCity.class.getDeclaredMethods()) {
            if (method.isSynthetic()) {
                continue;
            }
            if (Modifier.isPrivate(method.getModifiers())) {
                check.so(method.getName() + " is no name of the face", !names.contains(method.getName()));
                continue;
            }
            check.so(method + " is public and answers an int",
                Modifier.isPublic(method.getModifiers()) && method.getReturnType() == int.class);
            found.add(shape(method.getName(), method.getParameterTypes()));
        }
        for (Class<?> inside : FreeCity.class.getDeclaredClasses()) {
            check.so(inside + " is static", Modifier.isStatic(inside.getModifiers()));
            check.so(inside + " is not public", !Modifier.isPublic(inside.getModifiers()));
            for (Method method : inside.getDeclaredMethods()) {
                check.so(inside + "." + method.getName() + " is no name of the face",
                    !names.contains(method.getName()));
            }
        }
        check.so("the methods are those of the document: " + found, found.equals(new TreeSet<>(java.util.List.of(FACE))));
        int constants = 0;
        for (Field field : FreeCity.class.getDeclaredFields()) {
            if (!Modifier.isPrivate(field.getModifiers())) {
                constants++;
                check.so(field.getName(), "NONE BAD STATE FULL".contains(field.getName()));
            }
        }
        check.due("constants", constants, 4);
        Constructor<?>[] made = FreeCity.class.getDeclaredConstructors();
        check.so("one public constructor without arguments",
            made.length == 1 && Modifier.isPublic(made[0].getModifiers()) && made[0].getParameterCount() == 0);
        check.so("final", Modifier.isFinal(FreeCity.class.getModifiers()));
        check.due("NONE", FreeCity.NONE, -1);
        check.due("BAD", FreeCity.BAD, -2);
        check.due("STATE", FreeCity.STATE, -3);
        check.due("FULL", FreeCity.FULL, -4);
        check.end();
    }

    private static String shape(String name, Class<?>[] types) {
        StringBuilder text = new StringBuilder(name).append('(');
        for (int i = 0; i < types.length; i++) {
            text.append(i == 0 ? "" : ",").append(types[i].getName());
        }
        return text.append(')').toString();
    }
}
