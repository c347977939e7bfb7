import java.io.IOException;
import java.nio.file.Files;
import java.nio.file.Path;
import java.util.ArrayList;
import java.util.List;

/** What README.md shows: its blocks, each with its lines and where they stand. */
final class Readme {
    /** A block of one language, from the line behind its fence on. */
    static final class Block {
        final int firstLine;
        final List<String> lines = new ArrayList<>();

        private Block(int firstLine) {
            this.firstLine = firstLine;
        }
    }

    private Readme() {
    }

    static List<Block> blocks(String language) throws IOException {
        List<Block> found = new ArrayList<>();
        Block open = null;
        boolean isWanted = false;
        int number = 0;
        for (String line : Files.readAllLines(Path.of("README.md"))) {
            number++;
            if (line.startsWith("```")) {
                isWanted = open == null && line.equals("```" + language);
                open = open == null ? new Block(number + 1) : null;
                if (isWanted) found.add(open);
            } else if (isWanted) {
                open.lines.add(line);
            }
        }
        if (open != null) throw new IOException("a block of README.md has no end");
        return found;
    }
}
