import java.io.IOException;
import java.nio.file.Files;
import java.nio.file.Path;
import java.util.ArrayList;
import java.util.List;

/** The parts of README.md that tests look at; read from the project's root, where .ci/run goes. */
final class Readme {
    private static final String FENCE = "```";
    private static final String INDENT = "    ";

    private final List<String> prose = new ArrayList<>();
    private final List<List<String>> examples = new ArrayList<>();
    private final List<String> commands = new ArrayList<>();

    Readme() throws IOException {
        boolean inExample = false;
        for (String line : Files.readAllLines(Path.of("README.md"))) {
            if (line.startsWith(FENCE)) {
                inExample = !inExample;
                if (inExample) {
                    examples.add(new ArrayList<>());
                }
            } else if (inExample) {
                examples.get(examples.size() - 1).add(line);
            } else if (line.startsWith(INDENT)) {
                commands.add(line.strip());
            } else {
                prose.add(line);
            }
        }
    }

    /** The lines outside the examples and the commands. */
    List<String> prose() {
        return prose;
    }

    /** The lines between fences, a list for each pair of them. */
    List<List<String>> examples() {
        return examples;
    }

    /** The lines that are set in: what README.md tells its reader to run. */
    List<String> commands() {
        return commands;
    }
}
