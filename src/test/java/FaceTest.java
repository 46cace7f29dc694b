import java.io.IOException;
import java.lang.reflect.Constructor;
import java.lang.reflect.Field;
import java.lang.reflect.Method;
import java.lang.reflect.Modifier;
import java.nio.file.Files;
import java.nio.file.Path;
import java.util.Set;
import java.util.TreeSet;
import java.util.regex.Matcher;
import java.util.regex.Pattern;

/** The class's face is the document's: its constants and calls, and no other member that can be seen. */
public final class FaceTest {
    private static final Path SOURCE = Path.of("src/main/java/MiddleClaims.java");
    private static final Path DOCUMENT = Path.of("../shared/DOC.md");
    private static final Checks CHECKS = new Checks();

    public static void main(String[] args) throws IOException {
        constants();
        methods();
        privateMembers();
        asTheDocumentTells();
        groups();
        CHECKS.end();
    }

    private static void dueSame(String what, Set<String> got, Set<String> want) {
        if (!got.equals(want)) {
            System.out.println(what + ": " + got + ", due are " + want);
        }
        CHECKS.due(what, got.equals(want) ? 1 : 0, 1);
    }

    private static void constants() {
        CHECKS.due("UNKNOWN", MiddleClaims.UNKNOWN, -1);
        CHECKS.due("BAD_VALUE", MiddleClaims.BAD_VALUE, -2);
        CHECKS.due("FULL", MiddleClaims.FULL, -3);
        CHECKS.due("NOT_POSSIBLE", MiddleClaims.NOT_POSSIBLE, -4);
        CHECKS.due("NONE", MiddleClaims.NONE, -5);
    }

    private static void methods() {
        Set<String> got = new TreeSet<>();
        for (Method each : MiddleClaims.class.getDeclaredMethods()) {
            if (Modifier.isPublic(each.getModifiers())) {
                StringBuilder face = new StringBuilder(each.getName());
                for (Class<?> type : each.getParameterTypes()) {
                    face.append(' ').append(type.getName());
                }
                got.add(face.toString());
                CHECKS.due(each.getName() + " answers an int", each.getReturnType() == int.class ? 1 : 0, 1);
                CHECKS.due(each.getName() + " is static", Modifier.isStatic(each.getModifiers()) ? 1 : 0, 0);
            }
        }
        dueSame("public methods", got, new TreeSet<>(Set.of(
            "add int int int", "addAll", "remove int", "move int", "exchange", "shrink", "type char",
            "clearText", "undo", "keep", "restore", "clause int int", "side int int", "step int int",
            "partial int int int", "middle int int", "outermost boolean int", "test int int",
            "compare", "count int")));
        Constructor<?>[] constructors = MiddleClaims.class.getDeclaredConstructors();
        CHECKS.due("constructors", constructors.length, 1);
        CHECKS.due("it is public", constructors[0].getModifiers(), Modifier.PUBLIC);
        CHECKS.due("the class", MiddleClaims.class.getModifiers(), Modifier.PUBLIC | Modifier.FINAL);
    }

    private static void privateMembers() {
        Set<String> fields = new TreeSet<>();
        Set<String> faceNames = new TreeSet<>();
        for (Method each : MiddleClaims.class.getDeclaredMethods()) {
            if (Modifier.isPublic(each.getModifiers())) {
                faceNames.add(each.getName());
            }
        }
        for (Field each : MiddleClaims.class.getDeclaredFields()) {
            if (!Modifier.isPrivate(each.getModifiers())) {
                fields.add(each.getName());
            }
            if (Modifier.isStatic(each.getModifiers())) {
                CHECKS.due(each.getName() + " is final", Modifier.isFinal(each.getModifiers()) ? 1 : 0, 1);
            }
        }
        dueSame("fields that are not private", fields,
            new TreeSet<>(Set.of("UNKNOWN", "BAD_VALUE", "FULL", "NOT_POSSIBLE", "NONE")));
        for (Method each : MiddleClaims.class.getDeclaredMethods()) {
            boolean isPublic = Modifier.isPublic(each.getModifiers());
            boolean isPrivate = Modifier.isPrivate(each.getModifiers());
            CHECKS.due(each.getName() + " is public or private", isPublic || isPrivate ? 1 : 0, 1);
            CHECKS.due(each.getName() + " is a private one with a name of the face",
                !isPublic && faceNames.contains(each.getName()) ? 1 : 0, 0);
        }
        for (Class<?> each : MiddleClaims.class.getDeclaredClasses()) {
            int modifiers = each.getModifiers();
            CHECKS.due(each.getName() + " is static", Modifier.isStatic(modifiers) ? 1 : 0, 1);
            CHECKS.due(each.getName() + " is public or protected",
                modifiers & (Modifier.PUBLIC | Modifier.PROTECTED), 0);
        }
    }

    /** Each member of the document's face stands in the source as it is told there, and no other public one. */
    private static void asTheDocumentTells() throws IOException {
        String document = Files.readString(DOCUMENT);
        int start = document.indexOf("```java") + 7;
        String face = document.substring(start, document.indexOf("```", start));
        String source = Files.readString(SOURCE);
        int members = 0;
        for (String line : face.strip().split("\n")) {
            String member = line.strip().replaceAll("\\);$", ") {");
            if (!member.equals("}")) {
                members++;
                CHECKS.due("the source has: " + member, source.contains(member) ? 1 : 0, 1);
            }
        }
        CHECKS.due("public members", source.split("\\bpublic ", -1).length - 1, members);
    }

    /** "Ahead of the calls .. the interface says: ---- clauses", and so on. */
    private static void groups() throws IOException {
        String source = Files.readString(SOURCE);
        Matcher told = Pattern.compile("Ahead of the calls (.*) the interface says: (---- .*)\\.")
            .matcher(Files.readString(DOCUMENT));
        int from = 0;
        int groups = 0;
        while (told.find()) {
            int heading = source.indexOf("// " + told.group(2) + "\n", from);
            CHECKS.due("the heading " + told.group(2), heading > from ? 1 : 0, 1);
            from = heading;
            for (String call : told.group(1).split(", ")) {
                int at = source.indexOf("public int " + call.replace("`", "") + "(", from);
                CHECKS.due(call + " behind what stands ahead of it", at > from ? 1 : 0, 1);
                from = at;
            }
            groups++;
        }
        CHECKS.due("groups", groups, 4);
    }
}
