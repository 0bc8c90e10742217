import java.lang.reflect.Constructor;
import java.lang.reflect.Field;
import java.lang.reflect.Member;
import java.lang.reflect.Method;
import java.lang.reflect.Modifier;
import java.util.Set;
import java.util.TreeSet;

// The class shows the document's face and nothing more.
public final class FaceTest {
    private static final Set<String> DUE = Set.of(
        "public static final int LeapJoin.NONE",
        "public static final int LeapJoin.FULL",
        "public LeapJoin()",
        "public boolean LeapJoin.pair(int,int,int,boolean)",
        "public int LeapJoin.size(int)",
        "public int LeapJoin.atom(int,int,int)",
        "public int LeapJoin.drop()",
        "public int LeapJoin.count()",
        "public int LeapJoin.answer(int)",
        "public int LeapJoin.seek(int)",
        "public int LeapJoin.values(int)",
        "public int LeapJoin.countWith(int,int)",
        "public boolean LeapJoin.holds(int)",
        "public int LeapJoin.pairs(int,int)",
        "public int LeapJoin.loss(int,int,int)",
        "public int LeapJoin.partners(int,int,int)");

    private static void see(Set<String> seen, Member member) {
        if (!Modifier.isPrivate(member.getModifiers())) {
            seen.add(member.toString());
        }
    }

    public static void main(String[] args) {
        Set<String> seen = new TreeSet<>();
        for (Field f : LeapJoin.class.getDeclaredFields()) {
            see(seen, f);
        }
        for (Constructor<?> c : LeapJoin.class.getDeclaredConstructors()) {
            see(seen, c);
        }
        for (Method m : LeapJoin.class.getDeclaredMethods()) {
            see(seen, m);
        }
        int mask = Modifier.PUBLIC | Modifier.FINAL;
        boolean right = seen.equals(DUE) && LeapJoin.class.getModifiers() == mask
            && LeapJoin.NONE == -1 && LeapJoin.FULL == -2;
        System.out.println(right ? "the face is as due" : "the face is not as due: " + seen);
        if (!right) {
            System.exit(1);
        }
    }
}
