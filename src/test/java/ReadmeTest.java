import java.io.IOException;
import java.lang.reflect.Field;
import java.lang.reflect.Method;
import java.lang.reflect.Modifier;
import java.nio.file.Files;
import java.nio.file.Path;
import java.util.List;

/** The example of README.md does what it says there: its lines stand here too, and are run; run at the root. */
public final class ReadmeTest {
    private static final Path README = Path.of("README.md");
    private static final Path HERE = Path.of("src/test/java/ReadmeTest.java");

    public static void main(String[] args) throws IOException {
        checkLines(Files.readAllLines(README), Files.readString(HERE));
        checkExample();
        checkFaceIsTold(Files.readString(README));
        Checks.finish();
    }

    private static void checkLines(List<String> readme, String here) {
        int begin = readme.indexOf("```java") + 1;
        int end = begin + readme.subList(begin, readme.size()).indexOf("```");
        Checks.equal("README.md has an example", 1, end - begin > 9 ? 1 : 0);
        for (String line : readme.subList(begin, end)) {
            Checks.equal("stands here: " + line, 1, here.contains(line) ? 1 : 0);
        }
    }

    private static void checkExample() {
        CellHeap heap = new CellHeap();
        heap.load(0, 6);                  // register 0 is 6
        heap.load(1, 4);
        heap.work(2, 0, 1, 3);            // register 2 is 6 / 4, in lowest terms
        int cell = heap.cons(3, 2, 4);    // register 3 is a list of it, for register 4 is NIL: cell 3
        int length = heap.write(3);       // the output is "(3/2)": 5
        char first = heap.output(0);      // '('

        heap.type('-' << 24 | '1' << 16 | '2' << 8 | '/', '4' << 24, 0, 0, 0);
        int answer = heap.read(5);        // the line tells -12/4: 0, and register 5 is -3
        int had = heap.erase();           // 5 characters

        Checks.equal("the fraction", "3/2", Checks.written(heap, 2));
        Checks.equal("the list", "(3/2)", Checks.written(heap, 3));
        heap.nil(2);
        heap.nil(3);
        int free = heap.collect();        // the fraction and the pair are gone: 6
        Checks.equal("cell", 3, cell);
        Checks.equal("length", 5, length);
        Checks.equal("first", '(', first);
        Checks.equal("answer", 0, answer);
        Checks.equal("register 5", -3, heap.value(5, 3));
        Checks.equal("had", 5, had);
        Checks.equal("free", 6, free);
    }

    private static void checkFaceIsTold(String readme) {
        for (Method method : CellHeap.class.getDeclaredMethods()) {
            if (Modifier.isPublic(method.getModifiers())) {
                isTold(readme, "`" + method.getName() + "(");
            }
        }
        for (Field field : CellHeap.class.getFields()) {
            isTold(readme, "`" + field.getName() + "`");
        }
    }

    private static void isTold(String readme, String told) {
        Checks.equal("README.md tells " + told, 1, readme.contains(told) ? 1 : 0);
    }
}
