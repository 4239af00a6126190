import java.io.IOException;
import java.nio.file.Files;
import java.nio.file.Path;
import java.util.ArrayList;
import java.util.List;

/** The examples of README.md stand here too, line by line, and answer what is said beside them. */
public final class ReadmeTest {
    private static final Due DUE = new Due();

    public static void main(String[] args) throws IOException {
        examples();
        List<String> here = between("src/test/java/ReadmeTest.java", "// README", "// end");
        List<String> there = between("README.md", "```java", "```");
        DUE.holds("README.md has examples", !there.isEmpty());
        DUE.holds("README.md tells " + there + ", here stands " + here, there.equals(here));
        DUE.end("ReadmeTest");
    }

    private static void examples() {
        // README
        DownhillPost post = new DownhillPost();
        int peak = post.village(900);
        int middle = post.village(500);
        int sea = post.village(0);
        post.road(peak, middle, 3);
        post.road(middle, sea, 2);
        int days = post.least(0, middle, peak);   // down to the sea, and on with the balloon on day 7: 8
        int letter = post.send(0, middle, peak);
        int came = post.days(8);                  // how many letters came: 1
        int there = post.of(letter, 5);           // it is there: 1
        // end
        DUE.due("days", days, 8);
        DUE.due("came", came, 1);
        DUE.due("there", there, 1);
        DUE.due("findings", post.status(-1), 0);
        // README
        DownhillPost told = new DownhillPost();
        for (char one : "village 900; village 0 hermit; road 0 to 1 days 3; every 5; quick 0 to 1".toCharArray()) {
            told.feed(one, 1);
        }
        int items = told.text();                  // 5; with a fault -1 less its place, and the land stays as it was
        int when = told.when(0);                  // the quick letter needs half of 3 days, rounded up: 2
        // end
        DUE.due("items", items, 5);
        DUE.due("when", when, 2);
        // README
        int refused = told.village(10000);        // -1000000001: a height is 9999 at most
        int findings = told.status(-1);           // 1
        // end
        DUE.due("refused", refused, Due.BEYOND);
        DUE.due("findings", findings, 1);
    }

    /** The lines between marks that stand alone, without what they are moved in by. */
    private static List<String> between(String file, String begin, String end) throws IOException {
        List<String> all = new ArrayList<>();
        int indent = -1;
        for (String line : Files.readAllLines(Path.of(file))) {
            if (indent < 0) {
                indent = line.strip().equals(begin) ? line.indexOf(begin) : -1;
            } else if (line.strip().equals(end)) {
                indent = -1;
            } else {
                all.add(line.substring(Math.min(indent, line.length())));
            }
        }
        return all;
    }
}
