import java.io.ByteArrayOutputStream;
import java.io.PrintStream;
import java.lang.reflect.InvocationTargetException;
import java.lang.reflect.Method;
import java.net.URL;
import java.net.URLClassLoader;
import java.nio.charset.StandardCharsets;
import java.nio.file.Files;
import java.nio.file.Path;
import java.util.Comparator;
import java.util.List;
import java.util.Map;
import java.util.NoSuchElementException;
import java.util.Set;
import java.util.TreeMap;
import java.util.TreeSet;
import java.util.function.Supplier;
import java.util.regex.Matcher;
import java.util.regex.Pattern;
import java.util.stream.Collectors;
import java.util.stream.Stream;
import javax.tools.ToolProvider;

/** What README.md says is so: its example, when each call can be made, and its list of tests. */
final class ReadmeTest {
    private static final String ANY_TIME = "At any time";
    private static final String NO_MATCH = "While no match goes on";
    private static final String PAUSE = "Between the raids of a match";
    private static final String RAID = "In a raid";
    private static final String MATCH = "In a match, also in a raid";
    private static final String LAST_MATCH = "Of the match that goes on, or was last";

    private ReadmeTest() {
    }

    static void run(Check check, Path project) throws Exception {
        String page = Files.readString(project.resolve("README.md"), StandardCharsets.UTF_8);
        check.is("what the example prints", printedBy(block(page, "java")), block(page, "text"));
        Map<String, Set<String>> calls = callsByTime(page);
        check.is("times of calls", calls.keySet(), Set.of(ANY_TIME, NO_MATCH, PAUSE, RAID, MATCH, LAST_MATCH));
        eachCallOnce(check, calls);
        times(check, calls);
        namesOfTests(check, page, project);
    }

    /** The text of the only block of a kind. */
    private static String block(String page, String kind) {
        int from = page.indexOf("```" + kind + "\n") + kind.length() + 4;
        return page.substring(from, page.indexOf("```", from));
    }

    private static String printedBy(String program) throws Exception {
        Path place = Files.createTempDirectory("readme");
        try {
            Path source = Files.writeString(place.resolve("Example.java"), program);
            String classes = System.getProperty("java.class.path");
            int wrong = ToolProvider.getSystemJavaCompiler()
                .run(null, null, null, "-cp", classes, "-d", place.toString(), source.toString());
            return wrong == 0 ? printedBy(place) : "it does not compile";
        } finally {
            try (Stream<Path> files = Files.walk(place)) {
                for (Path file : files.sorted(Comparator.reverseOrder()).toList()) {
                    Files.delete(file);
                }
            }
        }
    }

    private static String printedBy(Path classes) throws Exception {
        PrintStream before = System.out;
        ByteArrayOutputStream printed = new ByteArrayOutputStream();
        try (URLClassLoader loader = new URLClassLoader(new URL[] {classes.toUri().toURL()})) {
            Method main = loader.loadClass("Example").getMethod("main", String[].class);
            System.setOut(new PrintStream(printed, true, StandardCharsets.UTF_8));
            main.invoke(null, (Object) new String[0]);
        } finally {
            System.setOut(before);
        }
        return printed.toString(StandardCharsets.UTF_8).replace("\r\n", "\n");
    }

    /** The names of calls in the list of "Use", by the words ahead of the colon; a name counts where it stands first. */
    private static Map<String, Set<String>> callsByTime(String page) {
        int from = page.indexOf("The calls, by when they can be made:\n\n- ");
        String list = page.substring(page.indexOf("- ", from) + 2, page.indexOf("\n\nA call that can't", from));
        Map<String, Set<String>> calls = new TreeMap<>();
        for (String row : list.split("\n- ")) {
            calls.put(row.substring(0, row.indexOf(':')), namesIn(row.substring(row.indexOf(':')), "`(\\w+)`"));
        }
        calls.get(MATCH).remove("begin");
        return calls;
    }

    private static Set<String> namesIn(String text, String pattern) {
        Matcher matcher = Pattern.compile(pattern).matcher(text);
        Set<String> names = new TreeSet<>();
        while (matcher.find()) {
            names.add(matcher.group(1));
        }
        return names;
    }

    private static void eachCallOnce(Check check, Map<String, Set<String>> calls) {
        Map<String, Integer> told = new TreeMap<>();
        calls.values().forEach(names -> names.forEach(name -> told.merge(name, 1, Integer::sum)));
        Map<String, Integer> due = new TreeMap<>();
        FaceTest.publicNames().forEach(name -> due.put(name, 1));
        check.is("calls told", told, due);
    }

    /** A call is refused at each time at which its row does not have it, and isn't at the times that it has. */
    private static void times(Check check, Map<String, Set<String>> calls) {
        Set<String> always = new TreeSet<>(calls.get(ANY_TIME));
        always.addAll(calls.get(LAST_MATCH));
        for (String name : FaceTest.publicNames()) {
            boolean isFree = calls.get(NO_MATCH).contains(name) || always.contains(name);
            boolean isOfPauses = calls.get(PAUSE).contains(name) || calls.get(MATCH).contains(name) || always.contains(name);
            boolean isOfRaids = calls.get(RAID).contains(name) || calls.get(MATCH).contains(name) || always.contains(name);
            check.is(name + " without a match", isTaken(name, ReadmeTest::without), isFree);
            check.is(name + " between raids", isTaken(name, ReadmeTest::between), isOfPauses);
            check.is(name + " in a raid", isTaken(name, ReadmeTest::within), isOfRaids);
        }
        check.is("season while one is put up", isTaken("season", ReadmeTest::auction), false);
        check.is("begin while one is put up", isTaken("begin", ReadmeTest::auction), false);
        check.is("edition while one is put up", isTaken("edition", ReadmeTest::auction), true);
    }

    private static Raidline without() {
        Raidline game = Games.squads(2, 4, 5, 5, 5);
        game.edition(3, 1, true, 4);
        return game;
    }

    /** The next raid is side 1's; 1 was touched, but it was not called. */
    private static Raidline between() {
        Raidline game = Games.match(4, 3, 1, true, 10);
        Games.emptyRaids(game, 1);
        game.raid(1);
        game.touch(0, true, false);
        game.comeBack();
        return game;
    }

    private static Raidline within() {
        Raidline game = between();
        game.raid(0);
        return game;
    }

    private static Raidline auction() {
        Raidline game = without();
        game.putUp(game.player(5, 5, 5, 'c'));
        return game;
    }

    private static boolean isTaken(String name, Supplier<Raidline> start) {
        Raidline game = start.get();
        try {
            prepare(name, game);
            call(name, game);
            return true;
        } catch (IllegalStateException | UnsupportedOperationException refused) {
            return false;
        }
    }

    /** What a call needs beside its time. */
    private static void prepare(String name, Raidline game) {
        if (name.equals("champion")) {
            game.squad();
        }
        if (List.of("putUp", "bid", "match", "knockDown").contains(name)) {
            int player = game.player(5, 5, 5, 'c');
            if (game.goesOn()) {
                return;
            }
            if (name.equals("match")) {
                Games.buy(game, player, 0);
                game.season();
            }
            if (!name.equals("putUp")) {
                game.putUp(player);
            }
            if (name.equals("match")) {
                game.bid(1, 10);
            }
        }
    }

    /** That there is nothing to tell of yet is an answer, too. */
    private static void call(String name, Raidline game) {
        Object[] arguments = argumentsOf(name);
        Method method = Stream.of(Raidline.class.getDeclaredMethods())
            .filter(one -> one.getName().equals(name)).findFirst().orElseThrow();
        try {
            method.invoke(game, arguments);
        } catch (InvocationTargetException thrown) {
            RuntimeException refused = (RuntimeException) thrown.getCause();
            if (!(refused instanceof ArithmeticException) && !(refused instanceof NoSuchElementException)) {
                throw refused;
            }
        } catch (IllegalAccessException hidden) {
            throw new AssertionError(hidden);
        }
    }

    private static Object[] argumentsOf(String name) {
        return switch (name) {
            case "player" -> new Object[] {5, 5, 5, 'c'};
            case "putUp" -> new Object[] {8};
            case "bid" -> new Object[] {0, 10};
            case "edition" -> new Object[] {3, 1, true, 4};
            case "begin" -> new Object[] {0, 1, false};
            case "match", "squadOf", "purse", "points", "onMat", "raid", "league", "placed" -> new Object[] {0};
            case "matAt", "outAt", "benchAt", "review" -> new Object[] {0, 0};
            case "touch" -> new Object[] {1, true, true};
            case "struggle", "stepOut" -> new Object[] {1};
            case "card" -> new Object[] {2, 'g'};
            case "substitute" -> new Object[] {0, 6};
            case "told" -> new Object[] {0, 'r'};
            case "value" -> new Object[] {7, 7, 0, 0, 1, 50, 30};
            default -> new Object[0];
        };
    }

    private static void namesOfTests(Check check, String page, Path project) throws java.io.IOException {
        Set<String> due;
        try (Stream<Path> files = Files.list(project.resolve("src/test/java"))) {
            due = files.map(file -> file.getFileName().toString()).filter(name -> name.endsWith("Test.java"))
                .map(name -> name.substring(0, name.length() - 5)).collect(Collectors.toCollection(TreeSet::new));
        }
        check.is("tests told", namesIn(page, "`(\\w+Test)`"), due);
    }
}
