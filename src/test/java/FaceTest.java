import java.lang.reflect.Constructor;
import java.lang.reflect.Field;
import java.lang.reflect.Method;
import java.lang.reflect.Modifier;
import java.util.Set;
import java.util.TreeSet;

/** The public face, and promise 1: a new object. */
public final class FaceTest {
    private static final String[] FACE = {
        "int province(int,int,int)", "int of(int,int)", "int tamer(int,int)", "int at(int,int)",
        "int asks(int,int,int)", "int feud(int,int,int)", "int terms(int,int)",
        "int feed(int,int,int,int,int)", "int end(int)", "int row()", "int saucers()", "int law()",
        "int orders()", "int fault()", "int stopped()", "int force(int)", "int crack(int,int)",
        "int meat(int,int)", "int move(int,int)", "int pass()", "int undo()", "int show(int,int,int)",
        "int least(int,int)", "int seats(int)", "int done(int,int,int,int)", "int forget()", "int one(int)",
        "int tempers(int)", "int ask(int,int)", "int governed(int)", "int calmest(int)",
        "int cubs(int,int,int)", "long safe(int,int)", "int compare(int,int)", "int decades(int,int)",
        "int drawn(int,int)", "int image(int)", "int back(int)", "int count(int)", "int status()",
    };

    public static void main(String[] args) {
        Check check = new Check("FaceTest");
        theFace(check);
        aNewObject(check);
        check.close();
    }

    private static void theFace(Check check) {
        Set<String> want = new TreeSet<>(Set.of(FACE));
        Set<String> names = new TreeSet<>();
        Set<String> got = new TreeSet<>();
        for (Method method : TamerState.class.getDeclaredMethods()) {
            if (Modifier.isPublic(method.getModifiers())) {
                got.add(told(method));
                names.add(method.getName());
            }
        }
        check.holds("the public methods " + got, got.equals(want));
        for (Method method : TamerState.class.getDeclaredMethods()) {
            boolean mine = Modifier.isPrivate(method.getModifiers()) && !names.contains(method.getName());
            check.holds("private or of the face: " + method, mine || got.contains(told(method)));
        }
        for (Field field : TamerState.class.getDeclaredFields()) {
            boolean mine = Modifier.isPrivate(field.getModifiers());
            check.holds("private or NONE: " + field, mine || field.getName().equals("NONE"));
        }
        Constructor<?>[] constructors = TamerState.class.getDeclaredConstructors();
        check.due("how many constructors", constructors.length, 1);
        check.holds("it is public", Modifier.isPublic(constructors[0].getModifiers()));
        check.holds("the class is final", Modifier.isFinal(TamerState.class.getModifiers()));
        for (Class<?> inside : TamerState.class.getDeclaredClasses()) {
            check.holds("static: " + inside, Modifier.isStatic(inside.getModifiers()));
            check.holds("not seen: " + inside, !Modifier.isPublic(inside.getModifiers()));
        }
        check.due("NONE", TamerState.NONE, -1);
    }

    private static String told(Method method) {
        StringBuilder told = new StringBuilder(method.getReturnType().getName());
        told.append(' ').append(method.getName()).append('(');
        for (Class<?> of : method.getParameterTypes()) {
            told.append(told.charAt(told.length() - 1) == '(' ? "" : ",").append(of.getName());
        }
        return told.append(')').toString();
    }

    private static void aNewObject(Check check) {
        TamerState x = new TamerState();
        int[] counts = {0, 0, 0, 0, 0, 0, 0, 0, 0, 0, 0, 0, -1, 0, 1, 0};
        for (int what = 0; what < counts.length; what++) {
            check.due("count(" + what + ")", x.count(what), counts[what]);
        }
        check.due("status()", x.status(), 0);
        check.due("fault()", x.fault(), -1);
        check.due("stopped()", x.stopped(), -1);
        check.due("saucers()", x.saucers(), 0);
        check.due("of(0, 0)", x.of(0, 0), -1);
        check.due("at(0, 0)", x.at(0, 0), -1);
        check.due("seats(0)", x.seats(0), 0);
        check.due("governed(0)", x.governed(0), 0);
        check.due("drawn(0, 0)", x.drawn(0, 0), -1);
        check.due("drawn(0, 2)", x.drawn(0, 2), -1);
        check.due("undo()", x.undo(), -3);
        check.due("back(0)", x.back(0), -2);
        check.due("back(1)", x.back(1), -2);
        check.due("safe(1, 1)", x.safe(1, 1), 900000000000L);
        TamerState other = new TamerState();
        x.province(1, 1, 1);
        check.due("another's count(0)", other.count(0), 0);
    }
}
