import java.io.IOException;
import java.nio.file.Files;
import java.nio.file.Path;
import java.util.ArrayList;
import java.util.List;
import java.util.Set;
import java.util.TreeSet;
import java.util.regex.Matcher;
import java.util.regex.Pattern;

/** The document's sentences, each behind the head under which it stands, and the face that it lists. */
final class Document {
    private Document() {
    }

    static String told(String head, String sentence) {
        return head + " | " + sentence;
    }

    /** Those that tell what must hold: not the first words, the listing of the face, or what isn't promised. */
    static List<String> sentences(Path file) throws IOException {
        List<String> all = new ArrayList<>();
        String head = "";
        boolean listing = false;
        for (String line : Files.readAllLines(file)) {
            if (line.startsWith("#")) {
                head = line.replaceAll("^#+ |:.*", "");
            } else if (line.startsWith("```")) {
                listing = line.equals("```java");
            } else if (!listing && !line.isBlank()) {
                ofLine(head, line, all);
            }
        }
        return all;
    }

    /** The methods of the face, without the names of what they take: long write(int,int,long). */
    static Set<String> face(Path file) throws IOException {
        Set<String> all = new TreeSet<>();
        Pattern method = Pattern.compile("    public (\\w+ \\w+\\()([^)]*)\\);");
        for (String line : Files.readAllLines(file)) {
            Matcher found = method.matcher(line);
            if (found.matches()) {
                all.add(found.group(1) + found.group(2).replaceAll("(\\w+) \\w+", "$1").replace(" ", "") + ")");
            }
        }
        return all;
    }

    private static void ofLine(String head, String line, List<String> all) {
        String bare = line.strip().replaceFirst("^\\d+\\. ", "").replaceFirst("^`[^`]*`: ", "");
        for (String sentence : bare.split("(?:(?<=[^.]\\.)|(?<=\\.\\))) (?=[A-Z(])")) {
            if (binds(head, sentence)) {
                all.add(told(head, sentence));
            }
        }
    }

    private static boolean binds(String head, String sentence) {
        return head.startsWith("Promise ")
            || head.equals("Terms") && !sentence.startsWith("Ahead of the calls")
            || head.equals("What it is") && !sentence.startsWith("Only downhill");
    }
}
