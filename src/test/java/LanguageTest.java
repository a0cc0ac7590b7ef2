import java.lang.management.ManagementFactory;
import java.lang.reflect.Constructor;
import java.lang.reflect.Field;
import java.lang.reflect.Member;
import java.lang.reflect.Method;
import java.lang.reflect.Modifier;
import java.nio.file.Files;
import java.nio.file.Path;
import java.util.ArrayList;
import java.util.Arrays;
import java.util.List;
import java.util.Set;
import java.util.TreeSet;
import java.util.regex.Matcher;
import java.util.regex.Pattern;

/** The face of the class, the rules of LANGUAGE.md that can be looked up in it, and the room that calls take. */
public final class LanguageTest {
    private static final String[] FACE = {
        "feed(int,int,int,int,int)int", "end(int)int", "text()int", "fault(int)int", "look(int)boolean",
        "weight(int)int", "chain(int,int)int", "law(int,int,boolean)int", "shell(int)int",
        "fill(int,int,int,int)boolean", "parts(int,int,int)int", "rules(int,int,int)boolean", "of(int,int,int)int",
        "box(int,int,int,boolean)int", "through(int,int,boolean)long", "settled(int)int", "steps(int,int)int",
        "event(int,int)int", "hand(int,int)boolean", "light(int,int,int)long", "sheet(int)boolean",
        "alter(int,int,long)boolean", "check(int)int", "below(int,int)int", "tone(int,int)int",
        "seen(int,int,int,int)int", "fits(int,int)int", "image()int", "back()int", "about(int)int"
    };
    private static final String[] FORBIDDEN = {
        "throw", "throws", "try", "catch", "finally", "synchronized", "assert", "import", "package", "volatile",
        "native", "Object", "instanceof", "hashCode", "toString", "double", "float", "System\\.(?!arraycopy)\\w+",
        "\\w*Exact", "var"
    };
    private static int wrong = 0;

    private static void due(boolean holds, String what) {
        if (!holds) {
            wrong++;
            System.out.println(what);
        }
    }

    public static void main(String[] args) throws Exception {
        Path document = Path.of("../shared/DOC.md");
        if (Files.exists(document)) {
            documentFace(Files.readString(document));
        }
        face();
        source(Files.readString(Path.of("src/main/java/StarShells.java")));
        room();
        System.out.println(wrong == 0 ? "the language is kept to" : wrong + " things are wrong");
        if (wrong != 0) {
            System.exit(1);
        }
    }

    private static boolean isHidden(Member member) {
        return Modifier.isPrivate(member.getModifiers());
    }

    /** FACE is what the document has. */
    private static void documentFace(String document) {
        Matcher method = Pattern.compile("public (int|long|boolean) (\\w+)\\((.*?)\\);").matcher(document);
        List<String> told = new ArrayList<>();
        while (method.find()) {
            String types = method.group(3).replaceAll(" \\w+(, )?", ",").replaceAll(",$", "");
            told.add(method.group(2) + "(" + types + ")" + method.group(1));
        }
        due(told.equals(Arrays.asList(FACE)), "the document's face is " + told);
        due(document.contains("public static final int NONE = -1;"), "the document's NONE");
    }

    private static void face() throws Exception {
        due(Modifier.isFinal(StarShells.class.getModifiers()), "the class isn't final");
        Set<String> want = new TreeSet<>(Arrays.asList(FACE));
        Set<String> got = new TreeSet<>();
        Set<String> names = new TreeSet<>();
        for (String row : FACE) {
            names.add(row.substring(0, row.indexOf('(')));
        }
        for (Method m : StarShells.class.getDeclaredMethods()) {
            if (isHidden(m)) {
                due(!names.contains(m.getName()), "a private method bears a public name: " + m);
                continue;
            }
            List<String> types = new ArrayList<>();
            for (Class<?> type : m.getParameterTypes()) {
                types.add(type.getName());
            }
            due(Modifier.isPublic(m.getModifiers()), "visible but not public: " + m);
            got.add(m.getName() + "(" + String.join(",", types) + ")" + m.getReturnType());
        }
        due(want.equals(got), "the face is " + got);
        for (Field f : StarShells.class.getDeclaredFields()) {
            due(isHidden(f) || f.getName().equals("NONE"), "a field is visible: " + f);
        }
        due(StarShells.NONE == -1, "NONE");
        Constructor<?>[] made = StarShells.class.getDeclaredConstructors();
        due(made.length == 1 && made[0].getParameterCount() == 0 && Modifier.isPublic(made[0].getModifiers()),
            "the constructor");
        due(StarShells.class.getDeclaredClasses().length + 1 <= 12, "above twelve classes");
        for (Class<?> inner : StarShells.class.getDeclaredClasses()) {
            due(Modifier.isStatic(inner.getModifiers()), "not static: " + inner);
            int fields = 0;
            for (Field f : inner.getDeclaredFields()) {
                due(!Modifier.isStatic(f.getModifiers()) || Modifier.isFinal(f.getModifiers()), "static: " + f);
                fields += Modifier.isStatic(f.getModifiers()) ? 0 : 1;
            }
            due(fields <= 20, "above twenty fields: " + inner);
            for (Method m : inner.getDeclaredMethods()) {
                due(!names.contains(m.getName()), "a method bears a public name: " + m);
                due(m.getParameterCount() <= 7, "above seven parameters: " + m);
            }
        }
    }

    private static void source(String text) {
        for (char sign : text.toCharArray()) {
            due(sign < 128, "a sign above 127: " + sign);
        }
        String code = text.replaceAll("(?s)/\\*.*?\\*/", "").replaceAll("//[^\n]*", "").replaceAll("\"[^\"]*\"", "\"\"");
        for (String word : FORBIDDEN) {
            Matcher m = Pattern.compile("(?<![\\w.])" + word + "\\b").matcher(code);
            due(!m.find(), "the source has " + word);
        }
        due(!code.contains("->") && !code.contains("::"), "a lambda or a method reference");
        due(!code.contains("static {"), "a static initialiser");
        int start = -1;
        String[] lines = text.split("\n");
        for (int i = 0; i < lines.length; i++) {
            String bare = lines[i].strip();
            if (bare.endsWith(") {") && bare.matches("(private |public |static |final )*[\\w\\[\\]]+( \\w+)?\\(.*")
                && !bare.matches("(if|for|while|switch|\\} else).*")) {
                start = i;
            }
            due(start < 0 || !lines[i].equals("    }") && !lines[i].equals("        }") || i - start <= 60,
                "a long method ends at line " + (i + 1));
            due(lines[i].length() <= 120, "a long line: " + (i + 1));
        }
    }

    /** What all calls of one object make: nothing beside what its constructor made. */
    private static void room() {
        StarShells x = new StarShells();
        lively(x);
        com.sun.management.ThreadMXBean bean =
            (com.sun.management.ThreadMXBean) ManagementFactory.getThreadMXBean();
        long id = Thread.currentThread().getId();
        bean.getThreadAllocatedBytes(id);
        long ahead = bean.getThreadAllocatedBytes(id);
        StarShells y = new StarShells();
        long made = bean.getThreadAllocatedBytes(id);
        lively(y);
        long behind = bean.getThreadAllocatedBytes(id);
        due(made - ahead < 100000, "an object takes " + (made - ahead) + " bytes");
        due(behind - made < 500, "calls take " + (behind - made) + " bytes");
    }

    private static void lively(StarShells x) {
        long sum = 0;
        for (int round = 0; round < 40; round++) {
            // "push", " 0=0", " to ", "9999", ";   "
            sum += x.feed(0x70757368, 0x20303d30, 0x20746f20, 0x39393939, 0x3b202020) + x.end(20) + x.text();
            sum += x.shell(0) + x.shell(1) + (x.fill(0, 0, 0, 100) ? 1 : 0) + x.fault(0) + x.law(0, 5, true);
            sum += x.settled(0) + x.steps(0, 5) + x.fits(0, -1) + x.tone(0, 0) + x.below(1, 3) + x.of(0, 0, 5);
            sum += x.box(0, 0, 0, true) + x.through(0, 0, true) + x.image() + x.back() + x.about(3);
            sum += (x.hand(0, 1) ? 1 : 0) + (x.sheet(0) ? 1 : 0) + (x.alter(0, 0, 1) ? 1 : 0) + x.check(1);
            sum += x.seen(0, 0, 0, 400) + x.light(0, 0, 0) + x.event(0, 0) + x.chain(0, 0) + x.weight(0);
        }
        due(sum != 0, "nothing was answered");
    }
}
