import com.sun.management.ThreadMXBean;
import java.io.IOException;
import java.lang.management.ManagementFactory;
import java.lang.reflect.Constructor;
import java.lang.reflect.Field;
import java.lang.reflect.Method;
import java.lang.reflect.Modifier;
import java.nio.file.Files;
import java.nio.file.Path;
import java.util.HashSet;
import java.util.Set;
import java.util.TreeSet;
import java.util.regex.Matcher;
import java.util.regex.Pattern;

/** The public face, the rules of LANGUAGE.md that can be read off, and the room that calls take. */
public final class FaceTest {
    private static final Check CHECK = new Check();
    private static final String[] FACE = {
        "come(int,int)", "head(int,int)", "light(int,boolean)", "setLamp(int,int,int)", "set(int,int)",
        "pass(int)", "type(char)", "clearText()", "perform()", "stopped(int)", "undo()", "keep()",
        "restore()", "runner(int,int)", "lamp(int,int)", "shadow(int,int,int)", "darkness(int)",
        "looked(int)", "at(int)", "reason(int)", "stepsTo(int)", "safest()", "ifTurns(int,int)", "count(int)",
    };

    public static void main(String[] args) throws IOException {
        constants();
        methods();
        otherMembers();
        classesInside();
        source(args.length > 0 ? args[0] : "src/main/java/ShadowTag.java");
        room();
        CHECK.end("FaceTest");
    }

    private static void constants() {
        CHECK.about("constants");
        CHECK.due("UNKNOWN", ShadowTag.UNKNOWN, -1);
        CHECK.due("BAD_VALUE", ShadowTag.BAD_VALUE, -2);
        CHECK.due("FULL", ShadowTag.FULL, -3);
        CHECK.due("NOT_POSSIBLE", ShadowTag.NOT_POSSIBLE, -4);
        CHECK.due("NONE", ShadowTag.NONE, -5);
    }

    private static void methods() {
        CHECK.about("methods");
        Set<String> due = new TreeSet<>(Set.of(FACE));
        Set<String> found = new TreeSet<>();
        for (Method method : ShadowTag.class.getDeclaredMethods()) {
            if (Modifier.isPrivate(method.getModifiers())) {
                continue;
            }
            StringBuilder name = new StringBuilder(method.getName()).append('(');
            for (Class<?> type : method.getParameterTypes()) {
                name.append(name.charAt(name.length() - 1) == '(' ? "" : ",").append(type.getName());
            }
            found.add(name.append(')').toString());
            CHECK.holds(name + " is public", Modifier.isPublic(method.getModifiers()));
            CHECK.holds(name + " answers an int", method.getReturnType() == int.class);
        }
        CHECK.holds("the methods are those of the document, found " + found, found.equals(due));
    }

    private static void otherMembers() {
        CHECK.about("other members");
        CHECK.holds("the class is public", Modifier.isPublic(ShadowTag.class.getModifiers()));
        CHECK.holds("the class is final", Modifier.isFinal(ShadowTag.class.getModifiers()));
        CHECK.holds("it has no package", ShadowTag.class.getPackageName().isEmpty());
        Constructor<?>[] constructors = ShadowTag.class.getDeclaredConstructors();
        CHECK.due("constructors", constructors.length, 1);
        CHECK.holds("the constructor is public", Modifier.isPublic(constructors[0].getModifiers()));
        int open = 0;
        for (Field field : ShadowTag.class.getDeclaredFields()) {
            open += Modifier.isPrivate(field.getModifiers()) ? 0 : 1;
        }
        CHECK.due("fields that are not private", open, 5);
    }

    private static void classesInside() {
        CHECK.about("classes inside");
        Set<String> face = new HashSet<>();
        for (String method : FACE) {
            face.add(method.substring(0, method.indexOf('(')));
        }
        Class<?>[] inside = ShadowTag.class.getDeclaredClasses();
        CHECK.holds("at most twelve classes", inside.length < 12);
        CHECK.holds("at most twenty fields", variables(ShadowTag.class) <= 20);
        for (Class<?> type : inside) {
            int modifiers = type.getModifiers();
            CHECK.holds(type + " is static", Modifier.isStatic(modifiers));
            CHECK.holds(type + " is not open", !Modifier.isPublic(modifiers) && !Modifier.isProtected(modifiers));
            CHECK.holds(type + " has at most twenty fields", variables(type) <= 20);
            for (Method method : type.getDeclaredMethods()) {
                CHECK.holds(type + " has no second " + method.getName(), !face.contains(method.getName()));
                CHECK.holds(method + " has at most seven parameters", method.getParameterCount() <= 7);
            }
        }
    }

    private static int variables(Class<?> type) {
        int sum = 0;
        for (Field field : type.getDeclaredFields()) {
            sum += Modifier.isStatic(field.getModifiers()) ? 0 : 1;
            boolean constant = Modifier.isFinal(field.getModifiers()) && field.getType() == int.class;
            CHECK.holds(field + " is no static variable", !Modifier.isStatic(field.getModifiers()) || constant);
        }
        return sum;
    }

    private static void source(String file) throws IOException {
        CHECK.about("source");
        String source = Files.readString(Path.of(file)).replaceAll("(?s)/\\*.*?\\*/", "").replaceAll("//[^\n]*", "");
        String[] banned = {"\\bthrows?\\b", "\\btry\\b", "\\bcatch\\b", "\\bfinally\\b", "\\bsynchronized\\b",
            "\\bassert\\b", "\\bpackage\\b", "\\bhashCode\\b", "\\bThread\\b", "\\bSystem\\.(?!arraycopy)",
            "->", "::", "static\\s*\\{", "Exact\\b"};
        for (String pattern : banned) {
            CHECK.holds("no " + pattern, !Pattern.compile(pattern).matcher(source).find());
        }
        CHECK.holds("the longest method is short", longestMethod(source) <= 60);
    }

    /** How many lines the longest method has: from a head to the brace that stands below it. */
    private static int longestMethod(String source) {
        int longest = 0;
        Matcher matcher = Pattern.compile("(?m)^( {4}| {8})\\w[^;=\n]*\\) \\{\n(?:\\1 .*\n|\n)*\\1\\}").matcher(source);
        while (matcher.find()) {
            longest = Math.max(longest, matcher.group().split("\n").length);
        }
        CHECK.holds("there are methods", longest > 3);
        return longest;
    }

    /** Calls make nothing: whatever they need was made with the object. */
    private static void room() {
        CHECK.about("room");
        ThreadMXBean bean = (ThreadMXBean) ManagementFactory.getThreadMXBean();
        long thread = Thread.currentThread().getId();
        ShadowTag tag = new ShadowTag();
        calls(tag);
        long before = bean.getThreadAllocatedBytes(thread);
        for (int time = 0; time < 10; time++) {
            calls(tag);
        }
        long made = bean.getThreadAllocatedBytes(thread) - before;
        CHECK.holds("400 calls make next to nothing, made " + made + " bytes", made < 40 * 400);
    }

    private static void calls(ShadowTag tag) {
        int sum = tag.come(55, 2) + tag.come(45, 3) + tag.come(12, 1) + tag.head(1, 2) + tag.head(1, -1);
        sum += tag.light(0, false) + tag.light(0, true) + tag.setLamp(1, 1, 2) + tag.setLamp(1, 1, 1);
        sum += tag.set(1, 3) + tag.pass(9) + tag.clearText() + tag.type('.') + tag.type('9') + tag.perform();
        sum += tag.stopped(0) + tag.undo() + tag.undo() + tag.keep() + tag.restore();
        for (int what = 0; what < 8; what++) {
            sum += tag.runner(1, what) + tag.lamp(1, what);
        }
        sum += tag.shadow(1, 0, 2) + tag.darkness(55) + tag.looked(55) + tag.at(5) + tag.reason(1);
        sum += tag.stepsTo(1) + tag.safest() + tag.ifTurns(9, 2) + tag.count(4) + tag.count(5);
        CHECK.holds("answers come", sum != Integer.MIN_VALUE);
    }
}
