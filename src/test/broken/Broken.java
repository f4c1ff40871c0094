import java.io.IOException;
import java.nio.file.Files;
import java.nio.file.Path;
import java.util.ArrayList;
import java.util.List;
import java.util.concurrent.ExecutionException;
import java.util.concurrent.ExecutorService;
import java.util.concurrent.Executors;
import java.util.concurrent.Future;
import java.util.concurrent.TimeUnit;
import javax.tools.ToolProvider;

/**
 * Breaks the class, sentence by sentence, and looks whether a test finds it. Not run by .ci/run:
 * it takes some minutes. Arguments: the class, variants.txt, compiled tests, an empty directory, tests.
 */
public final class Broken {
    /** One sentence broken: some places of the class, each with what stands there instead. */
    private static final class Variant {
        final String sentence;
        final List<String[]> edits = new ArrayList<>();

        Variant(String sentence) {
            this.sentence = sentence;
        }
    }

    private final String source;
    private final String compiled;
    private final Path room;
    private final List<String> tests;

    private Broken(String source, String compiled, Path room, List<String> tests) {
        this.source = source;
        this.compiled = compiled;
        this.room = room;
        this.tests = tests;
    }

    public static void main(String[] args) throws IOException, InterruptedException, ExecutionException {
        Broken broken = new Broken(Files.readString(Path.of(args[0])), args[2], Path.of(args[3]),
            List.of(args).subList(4, args.length));
        List<Variant> variants = variants(Files.readAllLines(Path.of(args[1])));
        variants.forEach(broken::edited);
        ExecutorService workers = Executors.newFixedThreadPool(Runtime.getRuntime().availableProcessors());
        List<Future<String>> answers = new ArrayList<>();
        for (int i = 0; i < variants.size(); i++) {
            int at = i;
            answers.add(workers.submit(() -> broken.foundBy(at, variants.get(at))));
        }
        int missed = 0;
        for (int i = 0; i < answers.size(); i++) {
            String by = answers.get(i).get();
            missed += by.endsWith("Test") ? 0 : 1;
            System.out.println(by + " | " + variants.get(i).sentence);
        }
        workers.shutdown();
        System.out.println(variants.size() + " broken, " + missed + " not found");
        System.exit(missed == 0 ? 0 : 1);
    }

    /** "# sentence", then edits: "- old" lines, then "+ new" lines; "##" begins a part. */
    private static List<Variant> variants(List<String> lines) {
        List<Variant> out = new ArrayList<>();
        char before = ' ';
        for (String line : lines) {
            char sign = line.isEmpty() ? ' ' : line.charAt(0);
            if (sign == '#' && !line.startsWith("##")) {
                out.add(new Variant(line.substring(1).strip()));
            } else if (sign == '-' || sign == '+') {
                List<String[]> edits = out.get(out.size() - 1).edits;
                if (sign == '-' && before != '-') {
                    edits.add(new String[] {"", ""});
                }
                String[] edit = edits.get(edits.size() - 1);
                int side = sign == '-' ? 0 : 1;
                edit[side] += (edit[side].isEmpty() ? "" : "\n") + line.substring(Math.min(2, line.length())).strip();
            }
            before = sign;
        }
        return out;
    }

    private String foundBy(int number, Variant variant) throws IOException, InterruptedException {
        Path dir = Files.createDirectories(room.resolve("v" + number));
        Path file = Files.writeString(dir.resolve("WiredNets.java"), edited(variant));
        int failed = ToolProvider.getSystemJavaCompiler().run(null, null, null,
            "-nowarn", "-d", dir.toString(), file.toString());
        if (failed != 0) {
            return "DOES NOT COMPILE";
        }
        for (String test : tests) {
            Process run = new ProcessBuilder("java", "-XX:TieredStopAtLevel=1", "-cp", dir + ":" + compiled, test)
                .redirectErrorStream(true).redirectOutput(ProcessBuilder.Redirect.DISCARD).start();
            boolean ended = run.waitFor(60, TimeUnit.SECONDS);
            run.destroyForcibly();
            if (!ended || run.exitValue() != 0) {
                return test;
            }
        }
        return "FOUND BY NONE";
    }

    /** Blanks at the ends of lines count for nothing, so that variants need not indent. */
    private String edited(Variant variant) {
        String text = source.replaceAll("(?m)^ +", "");
        for (String[] edit : variant.edits) {
            int at = text.indexOf(edit[0]);
            if (at < 0 || text.indexOf(edit[0], at + 1) >= 0) {
                throw new IllegalStateException(variant.sentence + " stands not once: " + edit[0]);
            }
            text = text.substring(0, at) + edit[1] + text.substring(at + edit[0].length());
        }
        return text;
    }
}
