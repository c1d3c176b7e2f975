import java.io.IOException;
import java.nio.file.Files;
import java.nio.file.Path;
import java.util.ArrayList;
import java.util.List;
import java.util.Set;
import java.util.TreeMap;
import java.util.TreeSet;
import java.util.stream.Collectors;
import java.util.stream.Stream;

/**
 * Runs every case of src/test/cases, one for each sentence of the document that names a boundary.
 *
 * A case is a title, "# 2: the last x is width - 1", then "new width height", then calls, "lay 3 0 1 = 0",
 * with the answer that is due behind "=", if one is asked. Behind a call that begins with "!" nothing may have
 * changed: each of PROBES gives the same answers with that call and without it. All cases are put to Oracle, too.
 * Arguments: the files whose names begin so, all without one.
 */
public final class BoundaryTest {
    private static final Path CASES = Path.of("src/test/cases");
    private static final int MOST_CALLS = 512;
    private static final int PROMISES = 29;
    private static final int TERMS = 5;
    private static final List<List<String>> PROBES = List.of(ways(), things(), told(), stops(), errands(), newOnes());

    private final String title;
    private final List<String> calls = new ArrayList<>();
    private int faults = 0;
    private int asked = 0;

    private BoundaryTest(String title) {
        this.title = title;
    }

    public static void main(String[] args) throws IOException {
        String prefix = args.length > 0 ? args[0] : "";
        List<Path> files;
        try (Stream<Path> all = Files.list(CASES)) {
            files = all.filter(file -> file.getFileName().toString().startsWith(prefix)).sorted()
                .collect(Collectors.toList());
        }
        TreeMap<String, Integer> told = new TreeMap<>();
        Set<String> titles = new TreeSet<>();
        int wrong = 0;
        int asked = 0;
        for (Path file : files) {
            for (BoundaryTest one : read(file)) {
                one.run();
                wrong += one.faults;
                asked += one.asked;
                told.merge(one.title.substring(0, one.title.indexOf(':')), 1, Integer::sum);
                if (!titles.add(one.title)) {
                    one.fault("two cases have this title");
                    wrong++;
                }
            }
        }
        wrong += prefix.isEmpty() ? missing(told.keySet()) : 0;
        System.out.println(titles.size() + " cases, " + asked + " answers asked");
        System.out.println(wrong == 0 ? "all answers are as due" : wrong + " answers are not as due");
        if (wrong != 0) {
            System.exit(1);
        }
    }

    private static int missing(Set<String> told) {
        Set<String> due = new TreeSet<>();
        for (int i = 1; i <= PROMISES; i++) {
            due.add(String.valueOf(i));
        }
        for (int i = 1; i <= TERMS; i++) {
            due.add("term " + i);
        }
        if (!due.equals(told)) {
            System.out.println("there are cases for " + told + ", due are " + due);
            return 1;
        }
        return 0;
    }

    private static List<BoundaryTest> read(Path file) throws IOException {
        List<BoundaryTest> all = new ArrayList<>();
        for (String line : Files.readAllLines(file)) {
            String text = line.trim();
            if (text.startsWith("#")) {
                all.add(new BoundaryTest(text.substring(1).trim()));
            } else if (!text.isEmpty()) {
                all.get(all.size() - 1).calls.add(text);
            }
        }
        return all;
    }

    private void fault(String what) {
        faults++;
        System.out.println(title + "\n    " + what);
    }

    private int size(int which) {
        return Calls.number(calls.get(0).split("\\s+")[which]);
    }

    private static String bare(String call) {
        String text = call.startsWith("!") ? call.substring(1) : call;
        int due = text.indexOf('=');
        return (due < 0 ? text : text.substring(0, due)).trim();
    }

    private void run() {
        if (!calls.get(0).startsWith("new ") || asks() == 0) {
            fault("a case begins with new, and asks something");
            return;
        }
        Calls floor = Calls.onFloor(size(1), size(2));
        Calls oracle = Calls.onOracle(size(1), size(2));
        for (int i = 1; i < calls.size(); i++) {
            String call = calls.get(i);
            String got = floor.answer(bare(call));
            String second = oracle.answer(bare(call));
            int due = call.indexOf('=');
            String want = due < 0 ? second : call.substring(due + 1).trim();
            asked++;
            if (!got.equals(want)) {
                fault(call + ": answered " + got);
            }
            if (!second.equals(want)) {
                fault(call + ": Oracle answered " + second);
            }
            if (call.startsWith("!")) {
                probe(i);
            }
        }
        if (floor.made() > MOST_CALLS) {
            fault(floor.made() + " calls are too many");
        }
    }

    private long asks() {
        return calls.stream().filter(call -> call.contains("=")).count();
    }

    /** The calls ahead of one, with and without that one, then each probe. */
    private void probe(int last) {
        for (List<String> probe : PROBES) {
            Calls with = Calls.onFloor(size(1), size(2));
            Calls without = Calls.onFloor(size(1), size(2));
            for (int i = 1; i <= last; i++) {
                with.answer(bare(calls.get(i)));
                if (i < last) {
                    without.answer(bare(calls.get(i)));
                }
            }
            for (String call : probe) {
                String got = with.answer(call);
                String want = without.answer(call);
                asked++;
                if (!got.equals(want)) {
                    fault(calls.get(last) + ": then " + call + " answered " + got + ", without it " + want);
                    return;
                }
            }
        }
    }

    private static void add(List<String> all, String form, int count) {
        for (int i = 0; i < count; i++) {
            all.add(form.replace("#", String.valueOf(i)));
        }
    }

    private static List<String> ways() {
        List<String> all = new ArrayList<>();
        add(all, "count #", 9);
        all.add("digest");
        all.add("safe");
        for (int what = 0; what <= 5; what++) {
            add(all, "about # " + what, 6);
        }
        for (int t : new int[] {0, 1, 2, 3, 5, 9, 400}) {
            for (int what = 0; what <= 3; what++) {
                add(all, "at # " + t + " " + what, 6);
            }
            add(all, "shelved # " + t, 12);
        }
        return all;
    }

    /** HOOKS, LINE, MARKS, GROUNDS and rows. */
    private static List<String> things() {
        List<String> all = new ArrayList<>();
        add(all, "take # 0", 10);
        add(all, "take # 4", 10);
        add(all, "weight #", 10);
        all.add("mean 1");
        add(all, "slot 39 #", 6);
        add(all, "slot # 5", 41);
        add(all, "slot 0 #", 6);
        all.add("mean 1");
        for (int y = 0; y < 8; y++) {
            add(all, "mark # " + y + " 1", 8);
            add(all, "lay # " + y + " 0", 8);
        }
        add(all, "row # false", 8);
        add(all, "mark 0 # 1", 8);
        return all;
    }

    private static List<String> told() {
        List<String> all = new ArrayList<>();
        add(all, "check #", 6);
        add(all, "guest #", 6);
        all.add("tell 1 1");
        all.add("hush");
        all.add("many");
        all.add("digest");
        all.add("dawn");
        add(all, "check #", 6);
        return all;
    }

    private static List<String> stops() {
        List<String> all = new ArrayList<>();
        for (int k = 0; k <= 8; k++) {
            add(all, "stop # " + k, 6);
        }
        add(all, "about # 4", 6);
        all.add("digest");
        all.add("many");
        all.add("digest");
        all.add("dawn");
        add(all, "stop # 0", 6);
        return all;
    }

    private static List<String> errands() {
        List<String> all = new ArrayList<>();
        for (int c = 0; c < 6; c++) {
            add(all, "errand " + c + " # 0 " + c, 4);
            add(all, "errand " + c + " # 1 -1", 4);
            all.add("about " + c + " 5");
            all.add("about " + c + " 3");
        }
        all.add("safe");
        all.add("few 0 1 -1");
        all.add("many");
        all.add("digest");
        all.add("stop 0 1");
        all.add("digest");
        return all;
    }

    private static List<String> newOnes() {
        List<String> all = new ArrayList<>();
        for (int y = 0; y < 8; y++) {
            add(all, "shelf # " + y, 8);
        }
        all.add("dawn");
        for (int y = 0; y < 8; y++) {
            add(all, "cart 1 # " + y + " 1", 8);
            add(all, "shelf # " + y, 8);
        }
        add(all, "at # 0 0", 6);
        add(all, "shelved # 0", 12);
        return all;
    }
}
