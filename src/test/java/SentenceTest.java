import java.io.IOException;
import java.lang.reflect.InvocationTargetException;
import java.lang.reflect.Method;
import java.nio.file.Files;
import java.nio.file.Path;
import java.util.ArrayDeque;
import java.util.ArrayList;
import java.util.Arrays;
import java.util.Deque;
import java.util.HashMap;
import java.util.LinkedHashMap;
import java.util.List;
import java.util.Map;
import java.util.Set;
import java.util.regex.Matcher;
import java.util.regex.Pattern;

// The cases of src/test/sentences.txt: each quotes a sentence of the document and tells a run of
// calls on a new object with the answers that are due by it. README.md tells how they are written.
//
// Beside the answers each case sees to what holds for all calls: a question, and a call that is
// refused, changes nothing; a change puts one state into the history; undo() brings back all but
// the text. And the cases as a whole are looked at: every sentence of the document has one.
public final class SentenceTest {
    private static final Path CASES = Path.of("src/test/sentences.txt");
    private static final Path DOCUMENT = Path.of("../shared/DOC.md");

    /** What an object is used for at most. */
    private static final int MOST_CALLS = 512;
    private static final int MOST_STATES = 4;

    private static final Set<String> CHANGES = Set.of("shareClass", "holder", "issue", "split", "buyBack", "grant", "take", "leave",
        "pass", "round", "takeUp", "close", "play");
    private static final Map<String, Integer> NAMES = Map.of("INVALID_ARGUMENT", -1, "NOT_POSSIBLE", -2, "LIMIT_REACHED", -3,
        "NOT_FOUND", -4, "MIN", Integer.MIN_VALUE, "MAX", Integer.MAX_VALUE);
    private static final Pattern CALL = Pattern.compile("(?:(\\d+) x )?(\\w+)(?:\\((.*)\\))?(?: = (\\w+|-\\d+))?");
    private static final Pattern TEXT = Pattern.compile("text \"(.*)\"");

    private static final Map<String, Method> METHODS = new HashMap<>();
    private static final List<Step> COMPANY = new ArrayList<>();
    private static final List<Step> TEXTS = new ArrayList<>();

    private static int wrong = 0;
    private static int answers = 0;

    /** The answer that is due; none if any will do that is no error. */
    record Step(String name, int[] arguments, Integer due) {
        int on(CapStacks x) throws ReflectiveOperationException {
            Method method = METHODS.get(name);
            if (method == null) {
                return CapStacks.class.getField(name).getInt(null);
            }
            return (int) method.invoke(x, Arrays.stream(arguments).boxed().toArray());
        }

        @Override
        public String toString() {
            return name + Arrays.toString(arguments).replace('[', '(').replace(']', ')');
        }
    }

    record Case(int line, String section, String sentence, List<Step> steps) { }

    private static void fault(Case c, String what) {
        wrong++;
        System.out.println("sentences.txt, line " + c.line + ", \"" + c.sentence + "\": " + what);
    }

    // ---- reading the cases

    private static int number(String word) {
        return NAMES.containsKey(word) ? NAMES.get(word) : Integer.parseInt(word);
    }

    /** "1, {2|3}" stands for both 1, 2 and 1, 3. */
    private static List<int[]> arguments(String words) {
        Matcher choice = Pattern.compile("\\{([^}]*)\\}").matcher(words);
        if (!choice.find()) {
            return List.of(words.isBlank() ? new int[0] : Arrays.stream(words.split(", ")).mapToInt(SentenceTest::number).toArray());
        }
        List<int[]> all = new ArrayList<>();
        for (String word : choice.group(1).split("\\|")) {
            all.addAll(arguments(words.substring(0, choice.start()) + word + words.substring(choice.end())));
        }
        return all;
    }

    private static void readCalls(String words, Map<String, List<Step>> macros, List<Step> into) {
        for (String word : words.split(" & ")) {
            Matcher text = TEXT.matcher(word.strip());
            Matcher call = CALL.matcher(word.strip());
            if (macros.containsKey(word.strip())) {
                into.addAll(macros.get(word.strip()));
            } else if (text.matches()) {
                text.group(1).chars().forEach(c -> into.add(new Step("type", new int[] {c}, null)));
            } else if (call.matches()) {
                int times = call.group(1) == null ? 1 : Integer.parseInt(call.group(1));
                Integer due = call.group(4) == null ? null : Integer.valueOf(number(call.group(4)));
                for (int i = 0; i < times; i++) {
                    for (int[] a : arguments(call.group(3) == null ? "" : call.group(3))) {
                        into.add(new Step(call.group(2), a, due));
                    }
                }
            } else {
                throw new IllegalArgumentException("not a call: " + word);
            }
        }
    }

    private static List<Case> readCases() throws IOException {
        List<Case> cases = new ArrayList<>();
        Map<String, List<Step>> macros = new HashMap<>();
        String section = "";
        int number = 0;
        for (String line : Files.readAllLines(CASES)) {
            number++;
            if (line.startsWith("== ")) {
                section = line.substring(3);
            } else if (line.startsWith("-- ")) {
                cases.add(new Case(number, section, line.substring(3), new ArrayList<>()));
            } else if (line.startsWith("let ")) {
                int colon = line.indexOf(": ");
                List<Step> steps = new ArrayList<>();
                readCalls(line.substring(colon + 2), macros, steps);
                macros.put(line.substring(4, colon), steps);
            } else if (!line.isBlank() && !line.startsWith("#")) {
                readCalls(line, macros, cases.get(cases.size() - 1).steps);
            }
        }
        return cases;
    }

    // ---- running a case

    private static void ask(List<Step> into, String name, int things, int questions) {
        for (int thing = 0; thing < things; thing++) {
            for (int what = 0; what < questions; what++) {
                into.add(new Step(name, new int[] {thing, what}, null));
            }
        }
    }

    private static void prepare() {
        for (Method method : CapStacks.class.getDeclaredMethods()) {
            METHODS.put(method.getName(), method);
        }
        for (int what = 0; what <= 10; what++) {
            COMPANY.add(new Step("count", new int[] {what}, null));
        }
        ask(COMPANY, "roundOf", 8, 5);
        ask(COMPANY, "classOf", 5, 8);
        ask(COMPANY, "certificateOf", 24, 4);
        ask(COMPANY, "grantOf", 8, 7);
        ask(COMPANY, "holderOf", 8, 10);
        for (int proceeds : new int[] {100, 5000}) {
            COMPANY.add(new Step("converts", new int[] {proceeds}, null));
            for (int k = 0; k < 5; k++) {
                COMPANY.add(new Step("classGets", new int[] {proceeds, k}, null));
            }
        }
        for (int what = 0; what <= 2; what++) {
            TEXTS.add(new Step("fault", new int[] {what}, null));
        }
        TEXTS.add(new Step("count", new int[] {12}, null));
        TEXTS.add(new Step("count", new int[] {11}, null));
    }

    /** Asks new objects that are led through the same calls, so that none is used for too many. */
    private static List<Integer> answers(List<Step> done, List<Step> questions) throws ReflectiveOperationException {
        List<Integer> all = new ArrayList<>();
        while (all.size() < questions.size()) {
            CapStacks x = new CapStacks();
            for (Step step : done) {
                step.on(x);
            }
            int next = Math.min(questions.size(), all.size() + MOST_CALLS - done.size());
            for (Step question : questions.subList(all.size(), next)) {
                all.add(question.on(x));
            }
        }
        return all;
    }

    private static void run(Case c) throws ReflectiveOperationException {
        if (c.steps.size() > MOST_CALLS - 10) {
            fault(c, "there are too many calls in it");
            return;
        }
        CapStacks x = new CapStacks();
        List<Step> done = new ArrayList<>();
        Deque<List<Integer>> history = new ArrayDeque<>();
        List<Integer> company = answers(done, COMPANY);
        List<Integer> texts = answers(done, TEXTS);
        for (Step step : c.steps) {
            int got = step.on(x);
            answers++;
            done.add(step);
            if (step.due == null ? got < 0 : got != step.due) {
                fault(c, step + " answered " + got + ", due is " + (step.due == null ? "no error" : step.due));
            }
            List<Integer> companyThen = answers(done, COMPANY);
            List<Integer> textsThen = answers(done, TEXTS);
            List<Integer> companyDue = company;
            if (got >= 0 && CHANGES.contains(step.name)) {
                history.addLast(company);
                companyDue = companyThen;
                if (history.size() > MOST_STATES) {
                    history.removeFirst();
                }
            } else if (got >= 0 && step.name.equals("undo")) {
                companyDue = history.isEmpty() ? List.of() : history.removeLast();
            } else if (got < 0 || !Set.of("type", "clearText").contains(step.name)) {
                compare(c, step, "the text or the history", textsThen, texts);
            }
            compare(c, step, "the company", companyThen, companyDue);
            compare(c, step, "the history", textsThen.subList(4, 5), List.of(history.size()));
            company = companyThen;
            texts = textsThen;
        }
    }

    private static void compare(Case c, Step step, String what, List<Integer> got, List<Integer> due) {
        if (!got.equals(due)) {
            fault(c, "after " + step + " " + what + " is not as it is due");
        }
    }

    // ---- looking at the cases as a whole

    private static Map<String, List<String>> sentencesOfDocument() throws IOException {
        Map<String, List<String>> all = new LinkedHashMap<>();
        String section = "";
        for (String line : Files.readAllLines(DOCUMENT)) {
            if (line.startsWith("#")) {
                section = line.replaceFirst("^#+ ", "");
                all.put(section, new ArrayList<>());
            } else if (!line.isBlank() && !line.startsWith("Ahead of the calls ") && !line.endsWith(":")) {
                String text = line.replaceFirst("^(\\d\\.|-) ", "").replaceFirst("^`(int )?\\w+\\(.*\\)`: ", "");
                String between = section.startsWith("Promise ") ? "; |(?<=\\.) " : "(?<=\\.) ";
                all.get(section).addAll(List.of(text.split(between)));
            }
        }
        all.remove("What it is");
        all.remove("The public face");
        all.remove("Not promised");
        return all;
    }

    private static void lookAtSentences(List<Case> cases) throws IOException {
        Map<String, List<String>> document = sentencesOfDocument();
        String whole = Files.readString(DOCUMENT);
        for (Case c : cases) {
            if (!document.containsKey(c.section) || !whole.contains(c.sentence)) {
                fault(c, "the document says no such thing");
            }
            if (c.steps.isEmpty()) {
                fault(c, "there are no calls in it");
            }
        }
        document.forEach((section, sentences) -> sentences.forEach(sentence -> {
            if (cases.stream().noneMatch(c -> c.section.equals(section) && (sentence.contains(c.sentence) || c.sentence.contains(sentence)))) {
                wrong++;
                System.out.println("no case for \"" + sentence + "\" of \"" + section + "\"");
            }
        }));
    }

    public static void main(String[] args) throws Exception {
        prepare();
        List<Case> cases = readCases();
        lookAtSentences(cases);
        for (Case c : cases) {
            try {
                run(c);
            } catch (InvocationTargetException e) {
                fault(c, "a call threw " + e.getCause());
            } catch (IllegalArgumentException | NoSuchFieldException e) {
                fault(c, "a call is not written well: " + e);
            }
        }
        System.out.println(wrong == 0 ? cases.size() + " cases, " + answers + " answers are as due" : wrong + " things are not as due");
        if (wrong != 0) {
            System.exit(1);
        }
    }
}
