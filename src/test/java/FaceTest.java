import java.lang.reflect.Constructor;
import java.lang.reflect.Field;
import java.lang.reflect.Method;
import java.lang.reflect.Modifier;
import java.util.Set;
import java.util.TreeSet;

/** The public face is the document's, and nothing of the class can be seen beside it. */
public final class FaceTest {
    private static final String[] METHODS = {
        "int camp(int,int,int)", "int man()", "int post(int,int,int,int,int)", "int day(int,int)",
        "int beds(int,int)", "int over(int)", "int order(int,int,int,int,int)", "int ofOrder(int,int)",
        "int delay(int,int)", "int word(int,int,int,int)", "int why(int,int,int,int)",
        "int quarrel(int,int)", "int rate(int,int)", "int home(int,int)", "int fine(int,int,int)",
        "int pay(int,int,int,int)", "int work(int,int,int)", "int hands(int,int,int)",
        "int row(int,int,int,int,int)", "int week()", "int ofWork(int,int)", "int level(int,int,int)",
        "long told(int,int)", "int grew(int)", "int stand(int,int,int,int)", "int live(int,int)",
        "long forest(int,int)", "int fire(int,int,int,int)", "int crew(int,int)", "int lost(int)",
        "int call(int)", "int place(int,int,int,boolean)", "long move(int)", "long gain(int,int,int,int)",
        "int go()", "int spot(int,int)", "int sheet(int,int,int)", "int lose(int)", "int put(int,int,int)",
        "long cell(int,int,int)", "int tell(int)", "int roll(int)", "int as(int,int)", "int trace()",
        "int fault()", "int many(int)"};
    private static final String[] CONSTANTS = {
        "int UNKNOWN", "int OUTSIDE", "int STATE", "int FULL", "int NONE", "long LOST"};

    public static void main(String[] args) {
        Check.due("UNKNOWN", -1, CampYears.UNKNOWN);
        Check.due("OUTSIDE", -2, CampYears.OUTSIDE);
        Check.due("STATE", -3, CampYears.STATE);
        Check.due("FULL", -4, CampYears.FULL);
        Check.due("NONE", -9, CampYears.NONE);
        Check.due("LOST", Long.MIN_VALUE, CampYears.LOST);
        int kind = CampYears.class.getModifiers();
        Check.holds("public and final", Modifier.isPublic(kind) && Modifier.isFinal(kind));
        methods();
        fields();
        constructors();
        nested();
        Check.end();
    }

    private static void methods() {
        Set<String> seen = new TreeSet<>();
        Set<String> names = new TreeSet<>();
        for (Method m : CampYears.class.getDeclaredMethods()) {
            if (Modifier.isPublic(m.getModifiers())) {
                seen.add(signature(m));
                names.add(m.getName());
                Check.holds(m + " is no static one", !Modifier.isStatic(m.getModifiers()));
            } else if (!m.isSynthetic()) {
                Check.holds(m + " is private", Modifier.isPrivate(m.getModifiers()));
            }
        }
        same(seen, METHODS);
        for (Method m : CampYears.class.getDeclaredMethods()) {
            if (Modifier.isPrivate(m.getModifiers())) {
                Check.holds(m + " bears no public name", !names.contains(m.getName()));
            }
        }
    }

    private static String signature(Method m) {
        StringBuilder s = new StringBuilder(m.getReturnType() + " " + m.getName() + "(");
        for (Class<?> p : m.getParameterTypes()) {
            s.append(s.charAt(s.length() - 1) == '(' ? "" : ",").append(p);
        }
        return s.append(")").toString();
    }

    private static void fields() {
        Set<String> seen = new TreeSet<>();
        for (Field f : CampYears.class.getDeclaredFields()) {
            int how = f.getModifiers();
            if (Modifier.isPublic(how)) {
                seen.add(f.getType() + " " + f.getName());
            } else {
                Check.holds(f + " is private", Modifier.isPrivate(how));
            }
            Check.holds(f + " is final, if static", !Modifier.isStatic(how) || Modifier.isFinal(how));
        }
        same(seen, CONSTANTS);
    }

    private static void constructors() {
        Constructor<?>[] all = CampYears.class.getDeclaredConstructors();
        Check.due("constructors", 1, all.length);
        Check.holds("a public one of nothing",
                all[0].getParameterCount() == 0 && Modifier.isPublic(all[0].getModifiers()));
    }

    private static void nested() {
        Class<?>[] all = CampYears.class.getDeclaredClasses();
        Check.holds("some twelve classes at most", all.length <= 12);
        for (Class<?> c : all) {
            Check.holds(c + " is static", Modifier.isStatic(c.getModifiers()));
            Check.holds(c + " is not public", !Modifier.isPublic(c.getModifiers()));
            int own = 0;
            for (Field f : c.getDeclaredFields()) {
                boolean fixed = Modifier.isStatic(f.getModifiers());
                Check.holds(f + " is final, if static", !fixed || Modifier.isFinal(f.getModifiers()));
                own += fixed ? 0 : 1;
            }
            Check.holds(c + " has some twenty fields at most", own <= 20);
        }
    }

    private static void same(Set<String> seen, String[] due) {
        for (String s : due) {
            Check.holds("there is " + s, seen.remove(s));
        }
        Check.due("more that is public: " + seen, 0, seen.size());
    }
}
