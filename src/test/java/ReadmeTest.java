import java.io.IOException;
import java.lang.reflect.Field;
import java.lang.reflect.Method;
import java.lang.reflect.Modifier;
import java.nio.file.Files;
import java.nio.file.Path;

/** README.md says how to use the class: its example holds, and nothing of the face is left out. */
public final class ReadmeTest {
    public static void main(String[] args) throws IOException {
        String readme = Files.readString(Path.of("README.md"));
        example(readme);
        for (Method method : SmokeLedger.class.getDeclaredMethods()) {
            if (Modifier.isPublic(method.getModifiers())) {
                Due.holds("README.md names " + method.getName(), readme.contains("`" + method.getName() + "("));
            }
        }
        for (Field field : SmokeLedger.class.getFields()) {
            Due.holds("README.md names " + field.getName(), readme.contains("`" + field.getName() + "`"));
        }
        Due.finish();
    }

    private static void example(String readme) {
        SmokeLedger ledger = new SmokeLedger();
        int mill = ledger.unit();
        Due.is("unit", mill, 1);
        says(readme, "ledger.hold(0, mill, 50, 0);", ledger.hold(0, mill, 50, 0), 0);
        int row = ledger.row(mill, 1, 10, 5, SmokeLedger.NONE);
        says(readme, "ledger.row(mill, 1, 10, 5, SmokeLedger.NONE);", row, 0);
        says(readme, "ledger.factor(1, 0, 2, 3);", ledger.factor(1, 0, 2, 3), 0);
        says(readme, "ledger.issue(mill, 5);", ledger.issue(mill, 5), 1);
        says(readme, "ledger.use(1, 4, row);", ledger.use(1, 4, row), 4);
        long tons = ledger.total(0, SmokeLedger.NONE, true, true, true);
        says(readme, "ledger.total(0, SmokeLedger.NONE, true, true, true);", tons, 9000000);
        Due.holds("README.md tells the total", readme.contains("// 9000000 millionths of tons"));
    }

    private static void says(String readme, String call, long got, long want) {
        Due.holds("README.md has " + call, readme.contains(call));
        Due.is(call, got, want);
    }
}
