import java.lang.reflect.Method;
import java.lang.reflect.Modifier;
import java.util.Map;
import java.util.Set;
import java.util.TreeMap;
import java.util.TreeSet;

/** The public face is the document's, and nothing else of the class is seen from outside. */
public final class FaceTest {
    private static final String FACE = "feed5 end1 street0 fault0 wall2 house2 drain2 now1 posted1 post3 quit1 up1 hours1"
        + " undo0 takes2 lacks1 plan2 planAt1 sure3 crew1 crewed1 rests2 walling0 due2 leaks2 when1 last0 carpets1"
        + " carried0 built0 most0 drawn2 odds3 book1 told1 sentence0 said1 image1 restore1 count1";

    public static void main(String[] args) {
        Kit kit = new Kit();
        kit.part("face");
        Set<String> due = new TreeSet<>(Set.of(FACE.split(" ")));
        Set<String> booleans = Set.of("end", "image", "restore");
        Map<String, Integer> others = new TreeMap<>();
        for (Method m : BagsRiver.class.getDeclaredMethods()) {
            if (Modifier.isPublic(m.getModifiers())) {
                kit.yes(m + " is of the document", due.remove(m.getName() + m.getParameterCount()));
                Class<?> answer = booleans.contains(m.getName()) ? boolean.class : int.class;
                kit.yes(m + " answers as told", m.getReturnType() == answer && !Modifier.isStatic(m.getModifiers()));
            } else {
                kit.yes(m + " is private", Modifier.isPrivate(m.getModifiers()));
                others.merge(m.getName(), 1, Integer::sum);
            }
        }
        kit.same("calls that are missing " + due, due.size(), 0);
        for (String name : FACE.replaceAll("[0-9]", "").split(" ")) {
            kit.no("a private method is called " + name, others.containsKey(name));
        }
        for (java.lang.reflect.Field f : BagsRiver.class.getDeclaredFields()) {
            boolean none = f.getName().equals("NONE");
            kit.yes(f + " is hidden or NONE", none == Modifier.isPublic(f.getModifiers()));
            kit.yes(f + " is private or NONE", none || Modifier.isPrivate(f.getModifiers()));
        }
        kit.same("NONE", BagsRiver.NONE, -1);
        kit.yes("the class is final", Modifier.isFinal(BagsRiver.class.getModifiers()));
        kit.same("constructors", BagsRiver.class.getConstructors().length, 1);
        kit.finish();
    }
}
