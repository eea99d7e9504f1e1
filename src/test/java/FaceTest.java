import java.lang.reflect.Constructor;
import java.lang.reflect.Field;
import java.lang.reflect.Method;
import java.lang.reflect.Modifier;
import java.util.HashSet;
import java.util.Set;
import java.util.TreeSet;

// The class shows the face of the document and no other member.
public final class FaceTest {
    private static final String[] FACE = {
        "public DifferenceDesk()",
        "public static final int DifferenceDesk.REFUSED",
        "public static final int DifferenceDesk.FULL",
        "public static final long DifferenceDesk.NONE",
        "public static final long DifferenceDesk.UNBOUNDED",
        "public int DifferenceDesk.difference(int,int,int)",
        "public int DifferenceDesk.clause(int,int,int,int)",
        "public int DifferenceDesk.push()",
        "public int DifferenceDesk.pop()",
        "public int DifferenceDesk.check(int,int,int)",
        "public int DifferenceDesk.implied(int)",
        "public long DifferenceDesk.greatest(int,int)",
        "public int DifferenceDesk.patterns()",
        "public int DifferenceDesk.settled()",
        "public int DifferenceDesk.price(int,int)",
        "public long DifferenceDesk.cheapest()",
        "public int DifferenceDesk.first()",
        "public int DifferenceDesk.firstCheapest()",
        "public int DifferenceDesk.size()",
    };

    private static int wrong = 0;

    private static void demand(boolean holds, String what) {
        if (!holds) {
            wrong++;
            System.out.println(what);
        }
    }

    public static void main(String[] args) {
        Class<?> desk = DifferenceDesk.class;
        demand(Modifier.isPublic(desk.getModifiers()), "the class is not public");
        demand(Modifier.isFinal(desk.getModifiers()), "the class is not final");
        demand(desk.getDeclaredClasses().length == 0, "the class has a nested class");

        Set<String> visible = new TreeSet<>();
        Set<String> publicNames = new HashSet<>();
        Set<String> privateNames = new HashSet<>();
        for (Constructor<?> c : desk.getDeclaredConstructors()) {
            visible.add(c.toString());
        }
        for (Field f : desk.getDeclaredFields()) {
            if (!Modifier.isPrivate(f.getModifiers())) {
                visible.add(f.toString());
            }
            if (Modifier.isStatic(f.getModifiers())) {
                boolean isNumber = f.getType() == int.class || f.getType() == long.class;
                demand(isNumber && Modifier.isFinal(f.getModifiers()), "not a constant: " + f);
            }
        }
        for (Method m : desk.getDeclaredMethods()) {
            boolean isPrivate = Modifier.isPrivate(m.getModifiers());
            (isPrivate ? privateNames : publicNames).add(m.getName());
            if (!isPrivate) {
                visible.add(m.toString());
            }
        }
        Set<String> due = new TreeSet<>(Set.of(FACE));
        demand(visible.equals(due), "visible: " + visible + "\ndue: " + due);
        privateNames.retainAll(publicNames);
        demand(privateNames.isEmpty(), "private and public: " + privateNames);

        System.out.println(wrong == 0 ? "the face is as due" : wrong + " faults in the face");
        if (wrong != 0) {
            System.exit(1);
        }
    }
}
