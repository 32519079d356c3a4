import java.lang.reflect.Constructor;
import java.lang.reflect.Field;
import java.lang.reflect.Member;
import java.lang.reflect.Method;
import java.lang.reflect.Modifier;
import java.util.Set;
import java.util.TreeSet;

/** The class shows the document's face and nothing else. */
public final class FaceTest {
    private static final Set<String> FACE = Set.of(
            "public static final int NONE",
            "public PromotionTill()",
            "public void article(int,int,int) throws IllegalArgumentException,IllegalStateException",
            "public void offer(int,int,int,int,int)"
                    + " throws IllegalArgumentException,IllegalStateException",
            "public void member(int,int,int,boolean)"
                    + " throws IllegalArgumentException,IllegalStateException",
            "public void run(int,boolean) throws IllegalArgumentException,IllegalStateException",
            "public int scan(int) throws IllegalArgumentException,UnsupportedOperationException",
            "public int unscan(int) throws IndexOutOfBoundsException",
            "public int total(int) throws IllegalArgumentException",
            "public int unit(int,int) throws IndexOutOfBoundsException,IllegalArgumentException",
            "public int tax(int) throws IllegalArgumentException",
            "public int tryOffer(int) throws IllegalArgumentException,UnsupportedOperationException",
            "public int finish(int) throws IllegalStateException,IllegalArgumentException,"
                    + "UnsupportedOperationException",
            "public int giveBack(int,int) throws IndexOutOfBoundsException,IllegalStateException",
            "public int receipt(int,int) throws IllegalArgumentException,IndexOutOfBoundsException",
            "public int line(int,int,int) throws IndexOutOfBoundsException,IllegalArgumentException");
    private static int wrong = 0;

    public static void main(String[] args) {
        due("the class", Modifier.toString(PromotionTill.class.getModifiers()), "public final");
        due("its face", shownMembers(), new TreeSet<>(FACE));
        due("NONE", PromotionTill.NONE, -1);
        for (Class<?> inside : PromotionTill.class.getDeclaredClasses()) {
            int modifiers = inside.getModifiers();
            boolean isHidden = !Modifier.isPublic(modifiers) && !Modifier.isProtected(modifiers);
            due(inside + " is hidden and static", isHidden && Modifier.isStatic(modifiers), true);
        }
        System.out.println(wrong == 0 ? "the face is the document's" : wrong + " places are not");
        if (wrong != 0) {
            System.exit(1);
        }
    }

    private static void due(String what, Object got, Object want) {
        if (!got.equals(want)) {
            wrong++;
            System.out.println(what + ": " + got + ", due is " + want);
        }
    }

    private static Set<String> shownMembers() {
        Set<String> shown = new TreeSet<>();
        for (Field field : PromotionTill.class.getDeclaredFields()) {
            addIfShown(shown, field, field.toString());
        }
        for (Constructor<?> constructor : PromotionTill.class.getDeclaredConstructors()) {
            addIfShown(shown, constructor, constructor.toString());
        }
        for (Method method : PromotionTill.class.getDeclaredMethods()) {
            addIfShown(shown, method, method.toString());
        }
        return shown;
    }

    private static void addIfShown(Set<String> shown, Member member, String text) {
        if (!Modifier.isPrivate(member.getModifiers()) && !member.isSynthetic()) {
            shown.add(text.replace("PromotionTill.", "").replace("java.lang.", ""));
        }
    }
}
