import java.io.ByteArrayOutputStream;
import java.io.File;
import java.io.IOException;
import java.nio.file.Files;
import java.nio.file.Path;
import java.util.ArrayList;
import java.util.List;
import java.util.concurrent.Callable;
import java.util.concurrent.ExecutionException;
import java.util.concurrent.ExecutorService;
import java.util.concurrent.Executors;
import java.util.concurrent.Future;
import java.util.concurrent.TimeUnit;
import java.util.regex.Matcher;
import java.util.regex.Pattern;
import javax.tools.ToolProvider;

/**
 * Not a test, but a look at the tests by hand: the class with one sign, number or line changed at a time,
 * and which of these changes they don't see. Those that are left should change no answer. See README.md.
 */
public final class Mutants {
    private static final Path SOURCE = Path.of("src/main/java/PairTables.java");
    private static final int SECONDS = 60;
    private static final String[][] SIGNS = {
        {"<=", "<"}, {">=", ">"}, {"==", "!="}, {"!=", "=="}, {"&&", "||"}, {"\\|\\|", "&&"},
        {"(?<![<=>])<(?![<=])", "<="}, {"(?<![->])>(?![>=])", ">="}, {"(?<=[^&])&(?=[^&=])", "|"},
        {"(?<=[^|])\\|(?=[^|=])", "&"}, {"(?<=\\s)\\+(?=\\s)", "-"}, {"(?<=\\s)-(?=\\s)", "+"}, {"\\|=", "="},
        {"&=", "="}, {"\\+=", "="}, {"\\btrue\\b", "false"}, {"\\bfalse\\b", "true"},
        {"(?m)^ ++(?!return|final|private|public|int |long |boolean |break|continue)[^\\n{}]*;$", ""}};

    private record Change(int at, String was, String is) { }

    public static void main(String[] args) throws IOException, InterruptedException, ExecutionException {
        if (args.length > 0 && args[0].equals("tests")) {
            runTests();
            return;
        }
        String text = Files.readString(SOURCE);
        List<Change> changes = changes(text);
        Path build = Files.createTempDirectory("mutants");
        ExecutorService workers = Executors.newFixedThreadPool(Runtime.getRuntime().availableProcessors());
        List<Future<Boolean>> seen = new ArrayList<>();
        for (Change change : changes) {
            Callable<Boolean> look = () -> isSeen(text, change, build);
            seen.add(workers.submit(look));
        }
        int unseen = 0;
        for (int at = 0; at < changes.size(); at++) {
            if (!seen.get(at).get()) {
                unseen++;
                System.out.println(told(text, changes.get(at)));
            }
        }
        workers.shutdown();
        Files.delete(build);
        System.out.println(changes.size() + " changes, " + unseen + " not seen by the tests by hand");
    }

    /** Each ends the machine with 1, if an answer is not as due. */
    private static void runTests() {
        String[] none = {};
        TableEdgesTest.main(none);
        NetEdgesTest.main(none);
        TermEdgesTest.main(none);
        CarriedEdgesTest.main(none);
        AskedBeforeTest.main(none);
        PromiseTest.main(none);
    }

    private static List<Change> changes(String text) {
        boolean[] isComment = new boolean[text.length()];
        Matcher comment = Pattern.compile("(?s)/\\*.*?\\*/|//[^\n]*|import[^\n]*").matcher(text);
        while (comment.find()) {
            for (int at = comment.start(); at < comment.end(); at++) {
                isComment[at] = true;
            }
        }
        List<Change> changes = new ArrayList<>();
        for (String[] sign : SIGNS) {
            Matcher found = Pattern.compile(sign[0]).matcher(text);
            while (found.find()) {
                if (!isComment[found.end() - 1]) {
                    changes.add(new Change(found.start(), found.group(), sign[1]));
                }
            }
        }
        Matcher number = Pattern.compile("(?<![\\w'])\\d+(?![\\w'])").matcher(text);
        while (number.find()) {
            if (!isComment[number.start()]) {
                int value = Integer.parseInt(number.group());
                changes.add(new Change(number.start(), number.group(), "" + (value + 1)));
                changes.add(new Change(number.start(), number.group(), "" + (value - 1)));
            }
        }
        return changes;
    }

    private static boolean isSeen(String text, Change change, Path build) throws IOException, InterruptedException {
        Path own = Files.createTempDirectory(build, "one");
        boolean isSeen = failsIn(own, text, change);
        for (File file : own.toFile().listFiles()) {
            Files.delete(file.toPath());
        }
        Files.delete(own);
        return isSeen;
    }

    /** One that can't be compiled or doesn't end is seen, too. */
    private static boolean failsIn(Path own, String text, Change change) throws IOException, InterruptedException {
        Path source = own.resolve("PairTables.java");
        Files.writeString(source, text.substring(0, change.at) + change.is + text.substring(change.at + change.was.length()));
        if (!compile(own, source)) {
            return true;
        }
        String classes = own + File.pathSeparator + System.getProperty("java.class.path");
        Process run = new ProcessBuilder("java", "-XX:TieredStopAtLevel=1", "-cp", classes, "Mutants", "tests")
            .redirectErrorStream(true).redirectOutput(ProcessBuilder.Redirect.DISCARD).start();
        if (!run.waitFor(SECONDS, TimeUnit.SECONDS)) {
            run.destroyForcibly();
            return true;
        }
        return run.exitValue() != 0;
    }

    private static boolean compile(Path to, Path source) {
        ByteArrayOutputStream said = new ByteArrayOutputStream();
        String[] how = {"-nowarn", "-d", to.toString(), source.toString()};
        return ToolProvider.getSystemJavaCompiler().run(null, said, said, how) == 0;
    }

    private static String told(String text, Change change) {
        int from = text.lastIndexOf('\n', change.at) + 1;
        int to = text.indexOf('\n', change.at + change.was.length() - 1);
        long line = 1 + text.substring(0, change.at).chars().filter(one -> one == '\n').count();
        return line + ": " + text.substring(from, change.at).strip() + " [" + change.was.strip() + " -> " + change.is + "] "
            + text.substring(change.at + change.was.length(), Math.max(to, change.at + change.was.length())).strip();
    }
}
