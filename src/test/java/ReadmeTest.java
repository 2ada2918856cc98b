import java.io.File;
import java.io.IOException;
import java.nio.file.Files;
import java.nio.file.Path;
import java.util.Comparator;
import java.util.List;
import java.util.stream.Collectors;
import java.util.stream.Stream;

/**
 * What README.md says of use: its program, compiled and run by its own commands in a directory where
 * nothing but the two files is, prints what it says.
 */
public final class ReadmeTest {
    private static final Path PROGRAM = Path.of("src/main/java/FoucaultKeeper.java");

    public static void main(String[] args) throws IOException, InterruptedException {
        Check check = new Check();
        List<String> lines = Files.readAllLines(Path.of("README.md"));
        Path place = Files.createTempDirectory("readme");
        try {
            Files.copy(PROGRAM, place.resolve(PROGRAM.getFileName()));
            Files.writeString(place.resolve("Example.java"), block(check, lines, "java"));
            String printed = run(place, block(check, lines, "sh"));
            check.due("the example of README.md", printed, block(check, lines, "text"));
        } finally {
            remove(place);
        }
        check.end();
    }

    /** The lines of the one block of this kind. */
    private static String block(Check check, List<String> lines, String kind) {
        StringBuilder found = new StringBuilder();
        int blocks = 0;
        boolean inside = false;
        for (String line : lines) {
            if (line.equals("```" + kind)) {
                blocks++;
                inside = true;
            } else if (line.startsWith("```")) {
                inside = false;
            } else if (inside) {
                found.append(line).append('\n');
            }
        }
        check.due("README.md: blocks of " + kind, blocks, 1);
        check.due("README.md: the block of " + kind + " is empty", found.length() == 0 ? 1 : 0, 0);
        return found.toString();
    }

    /** What these commands print, or say when one of them fails. */
    private static String run(Path place, String commands) throws IOException, InterruptedException {
        // What they print goes to a file, so that no full pipe can hold them up. Faults are told apart
        // from it: a Java machine may say there which options it has picked up.
        File printed = place.resolve("printed").toFile();
        Process shell = new ProcessBuilder("sh", "-e", "-c", commands).directory(place.toFile())
                .redirectError(ProcessBuilder.Redirect.INHERIT).redirectOutput(printed).start();
        int code = shell.waitFor();
        String told = Files.readString(printed.toPath());
        return code == 0 ? told : told + "exit code " + code;
    }

    private static void remove(Path place) throws IOException {
        try (Stream<Path> inside = Files.walk(place)) {
            List<Path> deepestFirst = inside.sorted(Comparator.reverseOrder()).collect(Collectors.toList());
            for (Path path : deepestFirst) {
                Files.delete(path);
            }
        }
    }
}
