import java.lang.reflect.InvocationTargetException;
import java.lang.reflect.Method;
import java.lang.reflect.Modifier;
import java.nio.file.Files;
import java.nio.file.Path;
import java.util.ArrayList;
import java.util.EnumSet;
import java.util.HashMap;
import java.util.LinkedHashMap;
import java.util.List;
import java.util.Map;
import java.util.TreeMap;
import java.util.regex.Matcher;
import java.util.regex.Pattern;

// The runs of src/test/boundaries.txt, each under the words of the document that it tests. Every word of
// the Terms and of the promises must stand above a run. And behind every single call of these runs, whatever
// its row asks: a refused call has changed nothing, another one only what it may change, and undo() brings
// all of a change back, and nothing else. That is seen from outside, by twins: two new objects go the same
// way, the one with that call and the other one without, and are then asked all that can be asked.
public final class BoundaryTest {
    private static final Path ROWS = Path.of("src/test/boundaries.txt");
    private static final Path DOCUMENT = Path.of("../shared/DOC.md");
    private static final int MOST_CALLS = 512;
    // a probe's own calls come behind a run's, and all of them must be below the document's 512
    private static final int LAST_WITH_TWINS = 110;

    private static final Map<String, Method> CALLS = new HashMap<>();
    private static final Map<String, String> DEFINED = new HashMap<>();
    private static int wrong = 0;
    private static int rows = 0;
    private static int twins = 0;

    public static void main(String[] args) throws Exception {
        for (Method m : HeapBench.class.getDeclaredMethods()) {
            if (Modifier.isPublic(m.getModifiers())) {
                CALLS.put(m.getName(), m);
            }
        }
        List<Section> sections = Section.read(Files.readAllLines(ROWS));
        Document document = new Document(Files.readString(DOCUMENT));
        for (Section section : sections) {
            document.cover(section);
            for (List<Row> run : section.runs) {
                answers(section, run);
                effects(section, run);
            }
        }
        document.tellUncovered();
        everyCallIsMade(sections);
        System.out.println(sections.size() + " places of the document, " + rows + " rows, " + twins + " twins asked, "
                + wrong + " not as due");
        if (wrong != 0) {
            System.exit(1);
        }
    }

    private static void notDue(String where, String what) {
        wrong++;
        System.out.println(where + ": " + what);
    }

    private static void everyCallIsMade(List<Section> sections) {
        EnumSet<Expectation> none = EnumSet.noneOf(Expectation.class);
        Map<String, EnumSet<Expectation>> made = new TreeMap<>();
        CALLS.keySet().forEach(name -> made.put(name, none.clone()));
        for (Section section : sections) {
            for (List<Row> run : section.runs) {
                run.forEach(row -> row.steps.forEach(step -> made.get(step.name).add(row.expectation)));
            }
        }
        made.forEach((name, how) -> {
            if (!how.contains(Expectation.ANSWER)) {
                notDue("all runs", name + "() is never asked for its answer");
            }
        });
    }

    // ---- the rows

    private enum Expectation { NOTHING, ANSWER, REFUSAL, NAME }

    /** A call with its arguments, booleans being 1 and 0. */
    private static final class Step {
        private static final Pattern FORM = Pattern.compile("(\\w+)\\(([^()]*)\\)");
        final String text;
        final String name;
        final long[] arguments;

        Step(String text) {
            Matcher m = FORM.matcher(text);
            if (!m.matches() || !CALLS.containsKey(m.group(1))) {
                throw new IllegalArgumentException("no call: " + text);
            }
            this.text = text;
            name = m.group(1);
            Class<?>[] types = CALLS.get(name).getParameterTypes();
            String[] words = m.group(2).isBlank() ? new String[0] : m.group(2).split(",");
            if (words.length != types.length) {
                throw new IllegalArgumentException("arguments of " + text);
            }
            arguments = new long[words.length];
            for (int i = 0; i < words.length; i++) {
                arguments[i] = number(words[i].trim(), types[i]);
            }
        }

        static long number(String word, Class<?> type) {
            switch (word) {
                case "true": return 1;
                case "false": return 0;
                case "least": return type == long.class ? Long.MIN_VALUE : Integer.MIN_VALUE;
                case "greatest": return type == long.class ? Long.MAX_VALUE : Integer.MAX_VALUE;
                default: return type == long.class ? Long.parseLong(word) : Integer.parseInt(word);
            }
        }
    }

    /** A line: calls, and at most one thing that is due behind the last of them. */
    private static final class Row {
        private static final Pattern TIMES = Pattern.compile("(\\d+) \\* (.*)");
        final String text;
        final List<Step> steps = new ArrayList<>();
        Expectation expectation = Expectation.NOTHING;
        String due = "";

        Row(String line) {
            text = line;
            String calls = line;
            if (line.startsWith("name = ")) {
                expectation = Expectation.NAME;
                due = line.substring(7).trim();
                return;
            }
            for (String sign : new String[] {" = ", " ! "}) {
                int at = line.indexOf(sign);
                if (at >= 0) {
                    calls = line.substring(0, at).trim();
                    due = line.substring(at + 3).trim();
                    expectation = sign.equals(" = ") ? Expectation.ANSWER : Expectation.REFUSAL;
                }
            }
            for (String call : calls.split(";")) {
                addSteps(call.trim(), 1);
            }
            if (expectation != Expectation.NOTHING && steps.size() != 1) {
                throw new IllegalArgumentException("one call only: " + line);
            }
        }

        private void addSteps(String call, int times) {
            Matcher m = TIMES.matcher(call);
            if (m.matches()) {
                addSteps(m.group(2), Integer.parseInt(m.group(1)));
                return;
            }
            for (int i = 0; i < times; i++) {
                if (DEFINED.containsKey(call)) {
                    for (String part : DEFINED.get(call).split(";")) {
                        addSteps(part.trim(), 1);
                    }
                } else {
                    steps.add(new Step(call));
                }
            }
        }

        long dueAnswer() {
            return Step.number(due, long.class);
        }
    }

    /** Words of the document and the runs that test them: a run is a new object, and ends at an empty line. */
    private static final class Section {
        final String part;
        final String words;
        final List<List<Row>> runs = new ArrayList<>();

        Section(String header) {
            String[] halves = header.substring(3).split(" \\| ", 2);
            part = halves[0].trim();
            words = halves[1].trim();
        }

        static List<Section> read(List<String> lines) {
            List<Section> sections = new ArrayList<>();
            List<Row> run = null;
            for (String whole : lines) {
                String line = whole.replaceAll("(^|\\s)#(?!#).*", "").trim();
                if (line.startsWith("## ")) {
                    sections.add(new Section(line));
                    run = null;
                } else if (line.startsWith("define ")) {
                    String[] words = line.split(" ", 3);
                    DEFINED.put(words[1], words[2]);
                } else if (whole.isBlank()) {
                    run = null;
                } else if (!line.isEmpty()) {
                    if (run == null) {
                        run = new ArrayList<>();
                        sections.get(sections.size() - 1).runs.add(run);
                    }
                    run.add(new Row(line));
                }
            }
            return sections;
        }

        boolean has(Expectation e) {
            return runs.stream().anyMatch(run -> run.stream().anyMatch(row -> row.expectation == e));
        }

        @Override
        public String toString() {
            return part + ", '" + words + "'";
        }
    }

    /** The document's parts; each of their letters has to be quoted by a section. */
    private static final class Document {
        final Map<String, String> parts = new LinkedHashMap<>();
        final Map<String, boolean[]> covered = new HashMap<>();

        Document(String text) {
            String terms = between(text, "## Terms", "Ahead of the calls");
            for (int i = 1; i <= 3; i++) {
                add("Term " + i, between(terms, "\n" + i + ". ", "\n" + (i + 1) + ". "));
            }
            for (int i = 1; i <= 37; i++) {
                String promise = between(text, "## Promise " + i + ": ", "\n## ");
                add("Promise " + i, between(promise, "`: ", "\n## "));
            }
            String use = "An object is used";
            add("What it is", use + between(text, use, "\n## "));
        }

        private static String between(String text, String from, String to) {
            int start = text.indexOf(from);
            if (start < 0) {
                throw new IllegalArgumentException("the document has no '" + from + "'");
            }
            int end = text.indexOf(to, start + from.length());
            return text.substring(start + from.length(), end < 0 ? text.length() : end);
        }

        private void add(String part, String text) {
            String plain = text.replace("```text", " ").replace("```", " ").replaceAll("\\s+", " ").trim();
            parts.put(part, plain);
            covered.put(part, new boolean[plain.length()]);
        }

        void cover(Section section) {
            String text = parts.get(section.part);
            int at = text == null ? -1 : text.indexOf(section.words);
            if (at < 0) {
                notDue(section.toString(), "the document has no such words");
            }
            for (int i = 0; at >= 0 && i < section.words.length(); i++) {
                covered.get(section.part)[at + i] = true;
            }
            if (!section.has(Expectation.ANSWER) && !section.has(Expectation.REFUSAL)) {
                notDue(section.toString(), "nothing is asked");
            }
            if (section.words.startsWith("Refused") && !section.has(Expectation.REFUSAL)) {
                notDue(section.toString(), "no call is refused");
            }
        }

        void tellUncovered() {
            parts.forEach((part, text) -> {
                StringBuilder left = new StringBuilder();
                for (int i = 0; i < text.length(); i++) {
                    left.append(covered.get(part)[i] ? ' ' : text.charAt(i));
                }
                if (Pattern.compile("\\w").matcher(left).find()) {
                    notDue(part, "no run stands under '" + left.toString().replaceAll("\\s+", " ").trim() + "'");
                }
            });
        }
    }

    // ---- an object under test

    private static final class Bench {
        final HeapBench real = new HeapBench();
        int calls = 0;

        Bench(List<Step> steps) {
            for (Step step : steps) {
                make(step);
            }
        }

        long make(Step step) {
            return ask(step.name, step.arguments);
        }

        long ask(String name, long... numbers) {
            calls++;
            if (calls > MOST_CALLS) {
                throw new IllegalStateException("the test makes more than " + MOST_CALLS + " calls");
            }
            Method m = CALLS.get(name);
            Object[] arguments = new Object[numbers.length];
            for (int i = 0; i < numbers.length; i++) {
                Class<?> type = m.getParameterTypes()[i];
                arguments[i] = type == boolean.class ? (Object) (numbers[i] == 1)
                        : type == int.class ? (Object) (int) numbers[i] : (Object) numbers[i];
            }
            try {
                Object answer = m.invoke(real, arguments);
                return answer instanceof Boolean b ? (b ? 1 : 0) : ((Number) answer).longValue();
            } catch (InvocationTargetException e) {
                throw new IllegalStateException(name + "() has thrown", e.getCause());
            } catch (IllegalAccessException e) {
                throw new IllegalStateException(e);
            }
        }

        int things() {
            return (int) ask("count", 0);
        }

        String name() {
            StringBuilder text = new StringBuilder();
            int n = things();
            for (int i = 0; i < n; i++) {
                text.append(Long.toString(ask("heap", i), 36));
            }
            return text.toString();
        }
    }

    // ---- what the rows ask

    private static void answers(Section section, List<Row> run) {
        Bench bench = new Bench(List.of());
        for (Row row : run) {
            rows++;
            if (row.expectation == Expectation.NAME) {
                named(section, bench, row.due);
                continue;
            }
            long got = 0;
            for (Step step : row.steps) {
                got = bench.make(step);
            }
            Step last = row.steps.get(row.steps.size() - 1);
            boolean says = CALLS.get(last.name).getReturnType() == boolean.class;
            long due = row.expectation == Expectation.REFUSAL ? (says ? 0 : HeapBench.NONE) : 0;
            due = row.expectation == Expectation.ANSWER ? row.dueAnswer() : due;
            if (row.expectation != Expectation.NOTHING && got != due) {
                notDue(section.toString(), row.text + ": answered " + got + ", due is " + due);
            }
            long fault = last.name.equals("fault") ? 0 : bench.ask("fault");
            long dueFault = row.expectation == Expectation.REFUSAL ? row.dueAnswer() : 0;
            if (fault != dueFault) {
                notDue(section.toString(), row.text + ": fault() " + fault + ", due is " + dueFault);
            }
        }
    }

    private static void named(Section section, Bench bench, String due) {
        String name = bench.name();
        long heaps = bench.ask("count", 1);
        long rank = bench.ask("rank");
        long dueHeaps = due.chars().distinct().count();
        if (!name.equals(due) || heaps != dueHeaps || rank != rankOf(due)) {
            notDue(section.toString(), "the name is " + name + " with " + heaps + " heaps and rank " + rank
                    + ", due is " + due + " with " + dueHeaps + " and " + rankOf(due));
        }
    }

    /** How many names stand ahead: those that begin alike up to a thing, and have a less heap there. */
    private static long rankOf(String name) {
        long ahead = 0;
        int heaps = 0;
        for (int i = 0; i < name.length(); i++) {
            int heap = Character.digit(name.charAt(i), 36);
            for (int less = 0; less < heap; less++) {
                ahead += endings(Math.max(heaps, less + 1), name.length() - i - 1);
            }
            heaps = Math.max(heaps, heap + 1);
        }
        return ahead;
    }

    /** How many names there are for so many more things, where there are so many heaps. */
    private static long endings(int heaps, int things) {
        return things == 0 ? 1 : heaps * endings(heaps, things - 1) + endings(heaps + 1, things - 1);
    }

    // ---- what each call may change

    /** What can be asked of an object; where the asking changes it, the object is not used again. */
    private enum Probe {
        PAIRS, NAME, COSTS, PLACES, PAST, PAST_PLACES, TREE, SHEET, SHEET_KIND, LIST, KEEPS;

        String ask(Bench x) {
            Transcript told = new Transcript(x);
            switch (this) {
                case PAIRS: told.pairs(); break;
                case NAME: told.name(); break;
                case COSTS: told.costs(); break;
                case PLACES: told.places(); break;
                case PAST: told.past(); break;
                case PAST_PLACES: told.pastPlaces(); break;
                case TREE: told.joins(); break;
                case SHEET: told.entries(); break;
                case SHEET_KIND: told.entryWidth(); break;
                case LIST: told.numbers(); break;
                default: told.kept(); break;
            }
            return told.text.toString();
        }
    }

    private static final class Transcript {
        final Bench x;
        final StringBuilder text = new StringBuilder();

        Transcript(Bench x) {
            this.x = x;
        }

        long tell(String name, long... numbers) {
            long answer = x.ask(name, numbers);
            text.append(name);
            for (long number : numbers) {
                text.append(' ').append(number);
            }
            text.append(" = ").append(answer).append("; ");
            return answer;
        }

        void pairs() {
            long n = tell("count", 0);
            for (int a = 1; a < n; a++) {
                for (int b = 0; b < a; b++) {
                    for (int what = 0; what < 3; what++) {
                        tell("pair", a, b, what);
                    }
                }
            }
            tell("rounds");
            tell("thirds");
        }

        void name() {
            long n = tell("count", 0);
            tell("count", 1);
            for (int a = 0; a < n; a++) {
                tell("heap", a);
            }
            tell("rank");
        }

        void costs() {
            for (int goal = 0; goal < 4; goal++) {
                tell("cost", goal);
            }
            long heaps = tell("count", 1);
            for (int heap = 0; heap < heaps; heap++) {
                tell("middle", heap);
            }
        }

        /** Things' PLACES from five corners: the ways to them tell each of the four numbers. */
        void places() {
            long n = tell("count", 0);
            if (n > 1) {
                fromCorners(1, 0, 1);
                fromCorners(0, 1, n);
            }
        }

        private void fromCorners(int stand, long from, long to) {
            for (int corner = -1; corner < 4; corner++) {
                x.ask("sheet", 2, 4);
                for (int i = 0; i < 4; i++) {
                    x.ask("entry", i, i == corner ? -1000 : 1000);
                }
                x.ask("lay", stand);
                x.ask("measure", 0);
                for (long a = from; a < to; a++) {
                    tell("pair", stand, a, 0);
                }
            }
        }

        void past() {
            long left = tell("count", 2);
            for (int i = 0; i <= left; i++) {
                tell("count", 0);
                tell("rank");
                tell("pair", 0, 1, 0);
                tell("pair", 0, 1, 1);
                tell("pair", 0, 1, 2);
                tell("pair", 0, 2, 0);
                tell("pair", 1, 2, 0);
                tell("cost", 0);
                tell("cost", 3);
                tell("undo");
            }
        }

        void pastPlaces() {
            long left = tell("count", 2);
            for (int i = 0; i < left; i++) {
                x.ask("undo");
            }
            places();
        }

        void joins() {
            long joins = tell("count", 3);
            for (int i = 0; i < joins; i++) {
                for (int what = 0; what < 3; what++) {
                    tell("joined", i, what);
                }
            }
            for (int a = 0; a <= joins; a++) {
                for (int b = 0; b < a; b++) {
                    tell("height", a, b);
                }
            }
            tell("height", 0, 0);
        }

        /** Entries that can't be laid are made 0 one after the other, until the rest can. */
        void entries() {
            tell("count", 5);
            x.ask("things", 2);
            boolean laid = tell("lay", 0) == 1;
            for (int i = 0; i < 4 && !laid; i++) {
                tell("entry", i, 0);
                laid = tell("lay", 0) == 1;
            }
            fromCorners(1, 0, 1);
        }

        void entryWidth() {
            x.ask("things", 2);
            tell("entry", 0, 1L << 32 | 1 << 16 | 1 << 8 | 5);
            if (tell("lay", 0) == 0) {
                tell("entry", 0, 1L << 32 | 5);
                tell("lay", 0);
            }
            fromCorners(1, 0, 1);
        }

        void numbers() {
            long length = tell("count", 4);
            if (length > 0) {
                x.ask("things", length);
                tell("load");
                name();
            }
        }

        void kept() {
            for (int n = 1; n <= 12; n++) {
                x.ask("things", n);
                for (int k = 0; k < 4; k++) {
                    if (tell("differ", k) >= 0) {
                        x.ask("of", 0);
                        tell("both", k);
                        tell("rank");
                        x.ask("of", 0);
                    }
                }
            }
        }
    }

    private static EnumSet<Probe> mayTouch(String call) {
        switch (call) {
            case "things":
            case "undo":
                return EnumSet.of(Probe.PAIRS, Probe.NAME, Probe.COSTS, Probe.PLACES, Probe.PAST, Probe.PAST_PLACES, Probe.TREE);
            case "way":
            case "measure":
            case "quarrel":
                return EnumSet.of(Probe.PAIRS, Probe.COSTS, Probe.PAST, Probe.PAST_PLACES);
            case "lay":
                return EnumSet.of(Probe.PLACES, Probe.PAST, Probe.PAST_PLACES, Probe.SHEET, Probe.SHEET_KIND);
            case "load":
                return EnumSet.of(Probe.NAME, Probe.COSTS, Probe.PAST, Probe.PAST_PLACES, Probe.LIST);
            case "sheet":
            case "entry":
                return EnumSet.of(Probe.SHEET, Probe.SHEET_KIND);
            case "tree":
                return EnumSet.of(Probe.TREE);
            case "keep":
                return EnumSet.of(Probe.KEEPS);
            case "tell":
            case "check":
                return EnumSet.of(Probe.LIST);
            default:
                return isChange(call) ? EnumSet.of(Probe.NAME, Probe.COSTS, Probe.PAST, Probe.PAST_PLACES) : EnumSet.noneOf(Probe.class);
        }
    }

    /** The CHANGES of Term 3. */
    private static boolean isChange(String call) {
        return List.of("things", "way", "lay", "measure", "quarrel", "put", "best", "line", "better", "two", "centres",
                "cut", "of", "both", "third", "load").contains(call);
    }

    private static void effects(Section section, List<Row> run) {
        List<Step> ahead = new ArrayList<>();
        for (Row row : run) {
            for (Step step : row.steps) {
                List<Step> behind = new ArrayList<>(ahead);
                behind.add(step);
                if (behind.size() <= LAST_WITH_TWINS) {
                    effectsOf(section + " behind " + texts(ahead), step, ahead, behind);
                }
                ahead = behind;
            }
        }
    }

    private static String texts(List<Step> steps) {
        StringBuilder text = new StringBuilder("new HeapBench()");
        steps.forEach(step -> text.append(", ").append(step.text));
        return text.toString();
    }

    private static void effectsOf(String where, Step step, List<Step> ahead, List<Step> behind) {
        Bench bench = new Bench(ahead);
        long before = bench.ask("count", 2);
        bench.make(step);
        boolean refused = !step.name.equals("fault") && bench.ask("fault") != 0;
        long after = bench.ask("count", 2);
        EnumSet<Probe> same = EnumSet.allOf(Probe.class);
        if (!refused) {
            same.removeAll(mayTouch(step.name));
        }
        compare(where, step.text + (refused ? ", refused," : ""), same, ahead, behind);
        boolean change = !refused && isChange(step.name);
        long due = change ? Math.min(20, before + 1) : !refused && step.name.equals("undo") ? before - 1 : before;
        if (after != due) {
            notDue(where, "count(2) is " + after + " behind " + step.text + ", due is " + due);
        }
        if (change) {
            undone(where, step, ahead, behind, before);
        }
    }

    /** A change that is undone leaves things, PLACES, WAYS, QUARRELS and PARTING as ahead of it, all else as behind. */
    private static void undone(String where, Step step, List<Step> ahead, List<Step> behind, long before) {
        List<Step> undone = new ArrayList<>(behind);
        undone.add(new Step("undo()"));
        EnumSet<Probe> back = EnumSet.of(Probe.PAIRS, Probe.NAME, Probe.COSTS, Probe.PLACES);
        if (before < 20) {
            back.addAll(EnumSet.of(Probe.PAST, Probe.PAST_PLACES));
        }
        compare(where, step.text + ", undo()", back, ahead, undone);
        EnumSet<Probe> rest = EnumSet.of(Probe.SHEET, Probe.SHEET_KIND, Probe.LIST, Probe.KEEPS);
        compare(where, "undo() of " + step.text, rest, behind, undone);
        if (new Bench(undone).ask("count", 3) != HeapBench.NONE) {
            notDue(where, "there is a TREE behind undo() of " + step.text);
        }
    }

    private static void compare(String where, String what, EnumSet<Probe> probes, List<Step> one, List<Step> other) {
        for (Probe probe : probes) {
            twins++;
            String due = probe.ask(new Bench(one));
            String got = probe.ask(new Bench(other));
            if (!due.equals(got)) {
                notDue(where, what + " changes " + probe + ": from " + due + " to " + got);
            }
        }
    }
}
