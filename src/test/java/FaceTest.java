import java.lang.reflect.Constructor;
import java.lang.reflect.Field;
import java.lang.reflect.Method;
import java.lang.reflect.Modifier;
import java.util.Arrays;
import java.util.TreeSet;

/** The public face, and promise 1. */
public final class FaceTest {
    private static final String[] METHODS = {
        "int about(int)", "int addPin(int)", "int ahead(int,int)", "int append(int)", "int clearText()",
        "int errorPosition()", "int fallsAfter(int)", "int freeStart(int)", "int hit(int,int)",
        "int latitudeFrom(int,int)", "int load()", "int lowAfter(int)", "int move(int,int)", "int next()",
        "int nudge(int)", "int pin(int,int)", "int push(int)", "int pushFor(int)", "int raise()", "int read()",
        "int reading(int,int)", "int removePin(int)", "int restore(int)", "int runScript(int,long)",
        "int save(int)", "int set(int,int)", "int simulate(long,int)", "int sine(int)", "int swing(int)",
        "int time(int,int)", "int undo()"
    };

    public static void main(String[] args) {
        Check check = new Check();
        face(check);
        promise1(check);
        check.end();
    }

    private static void face(Check check) {
        Class<?> keeper = FoucaultKeeper.class;
        check.due("the class's modifiers", keeper.getModifiers(), Modifier.PUBLIC | Modifier.FINAL);
        check.due("NONE", FoucaultKeeper.NONE, -9);
        TreeSet<String> open = new TreeSet<>();
        TreeSet<String> hidden = new TreeSet<>();
        for (Method method : keeper.getDeclaredMethods()) {
            if (Modifier.isPrivate(method.getModifiers())) {
                hidden.add(method.getName());
            } else {
                StringBuilder types = new StringBuilder();
                for (Class<?> type : method.getParameterTypes()) {
                    types.append(types.length() > 0 ? "," : "").append(type.getName());
                }
                open.add(method.getReturnType().getName() + " " + method.getName() + "(" + types + ")");
                check.due(method.getName() + " is public and of the object", method.getModifiers(), Modifier.PUBLIC);
            }
        }
        check.due("the methods", open.toString(), new TreeSet<>(Arrays.asList(METHODS)).toString());
        for (String method : METHODS) {
            String name = method.substring(4, method.indexOf('('));
            check.due("a private method named " + name, hidden.contains(name) ? 1 : 0, 0);
        }
        for (Field field : keeper.getDeclaredFields()) {
            boolean told = field.getName().equals("NONE");
            check.due(field.getName() + " is hidden", Modifier.isPrivate(field.getModifiers()) ? 1 : 0, told ? 0 : 1);
        }
        Constructor<?>[] constructors = keeper.getDeclaredConstructors();
        check.due("constructors", constructors.length, 1);
        check.due("the constructor's modifiers", constructors[0].getModifiers(), Modifier.PUBLIC);
        check.due("the constructor's parameters", constructors[0].getParameterCount(), 0);
    }

    private static void promise1(Check check) {
        FoucaultKeeper keeper = new FoucaultKeeper();
        int[] first = {50, 240, 5, 4000, 0, 0, 0, 5000, 0, 0, 0, 0, 0};
        for (int what = 0; what <= 12; what++) {
            check.due("new: about(" + what + ")", keeper.about(what), first[what]);
        }
        check.due("new: clearText", keeper.clearText(), 0);
        check.refused(keeper, "new: undo", IllegalStateException.class, keeper::undo);
        check.refused(keeper, "new: restore(0)", IllegalStateException.class, () -> keeper.restore(0));
        check.refused(keeper, "new: restore(1)", IllegalStateException.class, () -> keeper.restore(1));
        // 900 * 766 thousandths in a turn, 240000 make a minute.
        check.due("new: swing(1)", keeper.swing(1), 0);
        check.due("new: the direction behind a turn", keeper.about(5), 2);
        check.due("new: the rest behind a turn", keeper.about(6), 209400);
        check.due("new: the height behind a turn", keeper.about(7), 4997);
        check.due("another new one is not touched", new FoucaultKeeper().about(7), 5000);
    }
}
