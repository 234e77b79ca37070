import java.io.IOException;
import java.lang.reflect.Member;
import java.lang.reflect.Modifier;
import java.nio.file.Files;
import java.nio.file.Path;
import java.util.ArrayList;
import java.util.List;
import java.util.Set;
import java.util.TreeSet;
import java.util.regex.Matcher;
import java.util.regex.Pattern;

/** What of ../shared/LANGUAGE.md can be told without reading: the face, and what must not stand. */
final class LanguageTest {
    private static final Set<String> FACE = Set.of("setPages", "addStory", "setRank", "setHome",
            "addParagraph", "setParagraph", "kill", "revive", "story", "paragraph", "count",
            "appendCharacter", "clearText", "load", "make", "edition", "pieces", "piece", "at",
            "longestGap", "wasMoved", "next", "piecesWith", "roomFor", "undo", "INVALID_ARGUMENT",
            "ILLEGAL_STATE", "CAPACITY_EXCEEDED", "NONE");
    private static final String[] FORBIDDEN = {"\\bthrows?\\b", "\\btry\\b", "\\bcatch\\b",
        "\\bfinally\\b", "\\bsynchronized\\b", "\\bassert\\b", "\\bpackage\\b", "\\bvar\\b", "->",
        "::", "Exact\\(", "\\bprotected\\b", "\\bSystem\\.(?!arraycopy)", "\\bequals\\b",
        "\\bhashCode\\b", "\\btoString\\b"};

    public static void main(String[] args) throws IOException {
        Checks checks = new Checks();
        face(checks);
        String source = Files.readString(Path.of(args[0])).replaceAll("(?s)/\\*.*?\\*/", "")
                .replaceAll("//.*", "");
        for (String word : FORBIDDEN) {
            Matcher matcher = Pattern.compile(word).matcher(source);
            checks.due("stands in the source: " + word, matcher.find() ? 1 : 0, 0);
        }
        Matcher imports = Pattern.compile("import (?!java\\.util\\.Arrays;)").matcher(source);
        checks.due("another import", imports.find() ? 1 : 0, 0);
        for (int i = 0; i < source.length(); i++) {
            if (source.charAt(i) > 127) {
                checks.due("sign at " + i, source.charAt(i), 0);
            }
        }
        checks.due("constants", NewspaperMakeup.INVALID_ARGUMENT, -1);
        checks.due("constants", NewspaperMakeup.ILLEGAL_STATE, -2);
        checks.due("constants", NewspaperMakeup.CAPACITY_EXCEEDED, -3);
        checks.due("constants", NewspaperMakeup.NONE, -9);
        checks.finish("LanguageTest");
    }

    private static void face(Checks checks) {
        Class<?> type = NewspaperMakeup.class;
        checks.due("public and final", type.getModifiers(), Modifier.PUBLIC | Modifier.FINAL);
        List<Member> members = new ArrayList<>(List.of(type.getDeclaredMethods()));
        members.addAll(List.of(type.getDeclaredFields()));
        Set<String> seen = new TreeSet<>();
        for (Member member : members) {
            boolean open = !Modifier.isPrivate(member.getModifiers());
            checks.due("face: " + member.getName(), open ? 1 : 0,
                    FACE.contains(member.getName()) ? 1 : 0);
            seen.add(member.getName());
        }
        checks.due("the whole face", seen.containsAll(FACE) ? 1 : 0, 1);
        for (Class<?> inside : type.getDeclaredClasses()) {
            checks.due("static: " + inside, inside.getModifiers() & Modifier.STATIC,
                    Modifier.STATIC);
            for (Member member : inside.getDeclaredMethods()) {
                checks.due("a name of the face: " + member, FACE.contains(member.getName()) ? 1 : 0,
                        0);
            }
        }
    }
}
