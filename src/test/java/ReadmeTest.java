import java.io.IOException;
import java.nio.file.Files;
import java.nio.file.Path;

/** The example that README.md shows: it stands there line by line as it runs here, and answers what it says. */
public final class ReadmeTest {
    public static void main(String[] args) throws IOException {
        example();
        String own = Files.readString(Path.of("src/test/java/ReadmeTest.java"));
        String readme = Files.readString(Path.of("README.md"));
        int from = readme.indexOf("```java");
        int to = readme.indexOf("```", from + 3);
        Due.yes("README.md shows an example", from >= 0 && to > from);
        for (String line : readme.substring(from + 7, to).split("\n")) {
            String call = line.split("//")[0].trim();
            Due.yes("README.md's line ends as Java does: " + call, call.isEmpty() || call.endsWith(";"));
            Due.yes("README.md's line runs here: " + call, own.contains(call.replaceAll(";$", "")));
        }
        for (Path file : Files.list(Path.of("src/test/java")).sorted().toList()) {
            String name = file.getFileName().toString().replace(".java", "");
            Due.yes("README.md names " + name, !name.endsWith("Test") || readme.contains("`" + name + "`"));
        }
        Due.end();
    }

    private static void example() {
        InquestHall hall = new InquestHall();
        Due.is("days", hall.days(9999), 9999);
        int father = hall.person(0, InquestHall.NONE, InquestHall.NONE, 0, 0);
        int son = hall.person(0, father, InquestHall.NONE, 5000, 5100);
        int land = hall.land(0, 0, InquestHall.NONE);
        Due.yes("acre", hall.acre(land, 0, 60, 0));
        Due.yes("dies", hall.dies(father, 9000));
        Due.is("heirs", hall.heirs(father, land), 1);
        Due.is("share", hall.share(father, land, son, 0), 1);
        hall.feed(0x77617264, 0x206b6e69, 0x67687420, 0x756e7469, 0x6c203231);
        hall.feed(0x20746f20, 0x6b696e3b, 0x20202020, 0x20202020, 0x20202020);
        Due.is("reads", hall.reads(0), 1);
        Due.is("ward", hall.ward(father, land, son, 0), 1);
        Due.is("ward", hall.ward(father, land, son, 1), 12560);
        Due.is("ward", hall.ward(father, land, son, 4), 593);
    }
}
