import java.io.IOException;
import java.nio.file.Files;
import java.nio.file.Path;
import java.util.regex.Matcher;
import java.util.regex.Pattern;

/** The calls on the page README.md, each with the answer that stands behind it. */
final class ReadmeTest {
    private static final Pattern CALL = Pattern.compile("foundry\\.(\\w+)\\((.*)\\);\\s*// (-?\\d+)");
    private static final Pattern CONSTANT = Pattern.compile("\\| `([A-Z_]+)` \\| (-\\d) \\|");

    private ReadmeTest() {
    }

    public static void main(String[] args) throws IOException {
        String page = Files.readString(Path.of("README.md"));
        calls(page);
        constants(page);
        Due.end();
    }

    private static void calls(String page) {
        BellFoundry foundry = new BellFoundry();
        int found = 0;
        Matcher call = CALL.matcher(page);
        while (call.find()) {
            found++;
            int got = Calls.make(foundry, call.group(1), arguments(call.group(2)));
            Due.due(call.group(), got, Integer.parseInt(call.group(3)));
        }
        Due.due("calls on the page", found, page.split("foundry\\.", -1).length - 1);
        Due.holds("there are calls on the page", found > 0);
    }

    private static int[] arguments(String written) {
        if (written.isEmpty()) {
            return new int[0];
        }
        String[] words = written.split(", ");
        int[] arguments = new int[words.length];
        for (int i = 0; i < words.length; i++) {
            arguments[i] = words[i].startsWith("'") ? words[i].charAt(1) : Integer.parseInt(words[i]);
        }
        return arguments;
    }

    private static void constants(String page) {
        int found = 0;
        Matcher constant = CONSTANT.matcher(page);
        while (constant.find()) {
            found++;
            int due = switch (constant.group(1)) {
                case "INVALID_ARGUMENT" -> BellFoundry.INVALID_ARGUMENT;
                case "NOT_POSSIBLE" -> BellFoundry.NOT_POSSIBLE;
                case "LIMIT_REACHED" -> BellFoundry.LIMIT_REACHED;
                case "NOT_FOUND" -> BellFoundry.NOT_FOUND;
                default -> 0;
            };
            Due.due(constant.group(1) + " on the page", Integer.parseInt(constant.group(2)), due);
        }
        Due.due("constants on the page", found, 4);
    }
}
