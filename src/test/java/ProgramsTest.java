import java.io.IOException;
import java.nio.charset.StandardCharsets;
import java.nio.file.Files;
import java.nio.file.Path;

/**
 * Programs made by chance, with what an interpreter of another make (trees, not code) answered. A line of the file:
 * the STEPS of the runs, the answers of build (procedures, FAULT, WHERE) and of each run (its answer, counts 3 to 7,
 * what it printed), the text.
 */
public final class ProgramsTest {
    private static final int BUILDS_OF_AN_OBJECT = 7;

    public static void main(String[] args) throws IOException {
        Check check = new Check();
        AlgolMill mill = Check.mill();
        int builds = 0;
        for (String line : Files.readAllLines(Path.of("src/test/data/programs.txt"), StandardCharsets.ISO_8859_1)) {
            String[] parts = line.split("\t", -1);
            if (++builds % BUILDS_OF_AN_OBJECT == 0) {
                mill = Check.mill();
            }
            String text = parts[2].replace("\\n", "\n");
            check.due(text, answers(mill, text, parts[0].split(" ")), parts[1]);
        }
        check.end();
    }

    private static String answers(AlgolMill mill, String text, String[] steps) {
        Check.feed(mill, text);
        int procedures = -1;
        try {
            procedures = mill.build();
        } catch (IllegalStateException e) {
            procedures = -1;
        }
        StringBuilder all = new StringBuilder();
        all.append(procedures).append(' ').append(mill.count(1)).append(' ').append(mill.count(2));
        for (int i = 0; procedures >= 0 && i < steps.length; i++) {
            all.append('|').append(mill.run(Integer.parseInt(steps[i]))).append(' ');
            for (int what = 3; what <= 7; what++) {
                all.append(mill.count(what)).append(' ');
            }
            for (int k = 0; k < Math.min(500, mill.count(3)); k++) {
                all.append(k == 0 ? "" : ",").append(mill.out(k));
            }
        }
        return all.toString();
    }
}
