import java.io.IOException;
import java.nio.file.Files;
import java.nio.file.Path;
import java.util.List;

/** The example of README.md: its lines stand in this file, and its answers are those it tells. */
public final class ReadmeTest {
    public static void main(String[] args) throws IOException {
        Check check = new Check();
        runExample(check);
        compareLines(check);
        check.end();
    }

    private static void runExample(Check check) {
        PageLayouter page = new PageLayouter(); // box 0, a block, is there from the beginning
        int flex = page.box(0, 1);              // a parent and a sort: 0 block, 1 flex, 2 table
        int left = page.box(flex, 0);
        int right = page.box(flex, 0);
        page.set(left, 0, 40);                  // property 0 is WIDTH
        page.set(right, 6, 12);                 // property 6 is WORDS
        page.set(right, 7, 5);                  // property 7 is LETTERS
        int height = page.layout(100, 200);     // a page's width and height; answers 20
        int x = page.frame(right, 0);           // 0 x, 1 y, 2 width, 3 height; answers 36
        int top = page.hit(50, 5);              // the topmost box at a point; answers 3, the number of right
        check.same("height", height, 20);
        check.same("x", x, 36);
        check.same("top", top, 3);
        check.same("right", right, 3);
    }

    private static void compareLines(Check check) throws IOException {
        List<String> own = Files.readAllLines(Path.of("src/test/java/ReadmeTest.java"));
        int compared = 0;
        boolean inExample = false;
        for (String line : Files.readAllLines(Path.of("README.md"))) {
            if (line.startsWith("```")) {
                inExample = line.equals("```java");
            } else if (inExample) {
                check.yes("the example's line: " + line, own.contains("        " + line));
                compared++;
            }
        }
        check.yes("README.md has an example", compared > 0);
    }
}
