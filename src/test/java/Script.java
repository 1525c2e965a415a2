import java.util.ArrayList;
import java.util.List;
import java.util.Map;

/**
 * A run of calls on a new object, told by lines "call numbers -> answer". Words stand for the
 * constants and for the LEAST and the MOST int; 1|5 is one call with each, 1..5 one with each from
 * 1 to 5. "tell" says the signs of a text, "lay" puts files by their texts; "files", "pairs",
 * "entries", "merged" (entries without where they are from) and "clashes" look at many answers at once.
 *
 * Every script is run once more without its refused calls: nothing else may be answered otherwise,
 * and all that can be seen in the end must be the same. No object is used for more than 512 calls.
 */
final class Script {
    private static final int MOST_CALLS = 512;
    private static final int LOOKS = 7;
    private static final String REFUSALS = " UNKNOWN OUTSIDE STATE FULL NO ";
    private static final Map<String, Integer> WORDS = Map.of("LEAST", Integer.MIN_VALUE, "MOST", Integer.MAX_VALUE,
        "UNKNOWN", MovedFolders.UNKNOWN, "OUTSIDE", MovedFolders.OUTSIDE, "STATE", MovedFolders.STATE,
        "FULL", MovedFolders.FULL, "NO", MovedFolders.NO, "NONE", MovedFolders.NONE);

    private final Check check;
    private final String title;
    private final MovedFolders x = new MovedFolders();
    private int calls = 0;

    private Script(Check check, String title) {
        this.check = check;
        this.title = title;
    }

    /** The title is the sentence of the document that the lines hold. */
    static void run(Check check, String title, String... texts) {
        List<String> lines = linesOf(texts);
        Script whole = new Script(check, title);
        whole.play(lines, true);
        boolean refuses = false;
        for (String line : lines) {
            refuses |= isRefused(line);
        }
        if (!refuses) {
            return;
        }
        for (int part = 0; part < LOOKS; part++) {
            Script with = new Script(check, title);
            with.play(lines, true);
            Script without = new Script(check, title + " (without what is refused)");
            without.play(lines, false);
            check.same(title + ": what is seen behind refused calls", with.look(part), without.look(part));
        }
    }

    private static List<String> linesOf(String[] texts) {
        List<String> lines = new ArrayList<>();
        for (String text : texts) {
            for (String line : text.split("\n")) {
                if (!line.isBlank()) {
                    lines.add(line.trim());
                }
            }
        }
        return lines;
    }

    private static boolean isRefused(String line) {
        return REFUSALS.contains(" " + wantOf(line) + " ");
    }

    private static String wantOf(String line) {
        int arrow = line.indexOf("->");
        if (arrow < 0) {
            throw new IllegalStateException("the test itself is wrong: " + line);
        }
        return line.substring(arrow + 2).trim();
    }

    private void play(List<String> lines, boolean withRefused) {
        for (String line : lines) {
            if (withRefused || !isRefused(line)) {
                playLine(line);
            }
        }
        check.due(title + ": a script of more than " + MOST_CALLS + " calls", calls > MOST_CALLS ? calls : 0, 0);
    }

    private void playLine(String line) {
        String[] words = line.substring(0, line.indexOf("->")).trim().split(" +");
        String want = wantOf(line);
        switch (words[0]) {
            case "tell":
                due(line, tell(words[1]), want);
                break;
            case "lay":
                due(line, lay(words), want);
                break;
            case "files":
                check.same(title + ": " + line, files(number(words[1])), want);
                break;
            case "pairs":
                check.same(title + ": " + line, pairs(number(words[1])), want);
                break;
            case "entries":
                check.same(title + ": " + line, entries(4), want);
                break;
            case "merged":
                check.same(title + ": " + line, entries(3), want);
                break;
            case "clashes":
                check.same(title + ": " + line, clashes(), want);
                break;
            default:
                playEach(words, new int[words.length - 1], 0, want);
        }
    }

    private void due(String call, int got, String want) {
        check.due(title + ": " + call, got, number(want));
    }

    private void playEach(String[] words, int[] numbers, int known, String want) {
        if (known == numbers.length) {
            StringBuilder call = new StringBuilder(words[0]);
            for (int n : numbers) {
                call.append(' ').append(n);
            }
            due(call.toString(), call(words[0], numbers), want);
            return;
        }
        for (int n : numbersOf(words[known + 1])) {
            numbers[known] = n;
            playEach(words, numbers, known + 1, want);
        }
    }

    private static List<Integer> numbersOf(String word) {
        List<Integer> all = new ArrayList<>();
        for (String part : word.split("\\|")) {
            int dots = part.indexOf("..");
            if (dots < 0) {
                all.add(number(part));
            } else {
                for (int n = number(part.substring(0, dots)); n <= number(part.substring(dots + 2)); n++) {
                    all.add(n);
                }
            }
        }
        return all;
    }

    private static int number(String word) {
        return WORDS.containsKey(word) ? WORDS.get(word) : Integer.parseInt(word);
    }

    private int tell(String text) {
        int last = 0;
        for (char c : text.toCharArray()) {
            last = call("say", c);
        }
        return last;
    }

    private int lay(String[] words) {
        int last = 0;
        for (int k = 2; k < words.length; k++) {
            tell(words[k]);
            last = call("put", number(words[1]));
        }
        return last;
    }

    private String files(int tree) {
        return joined(call("told", 10 + tree), (i, what) -> call("file", tree, i, what), 2);
    }

    private String entries(int parts) {
        return joined(call("entry", -1, 0), (i, what) -> call("entry", i, what), parts);
    }

    private String clashes() {
        return joined(call("clash", -1, 0), (i, what) -> call("clash", i, what), 2);
    }

    /** For each file of BASE mate:way, then behind a bar each origin. */
    private String pairs(int side) {
        String mates = joined(call("told", 10), (i, what) -> call("pair", side, i, what), 2);
        return mates + " | " + joined(call("told", 10 + side), (i, what) -> call("origin", side, i), 1);
    }

    private interface Asked {
        int at(int i, int what);
    }

    private static String joined(int count, Asked asked, int parts) {
        List<String> all = new ArrayList<>();
        for (int i = 0; i < count; i++) {
            List<String> one = new ArrayList<>();
            for (int what = 0; what < parts; what++) {
                one.add(String.valueOf(asked.at(i, what)));
            }
            all.add(String.join(":", one));
        }
        return all.isEmpty() ? "none" : String.join(" ", all);
    }

    /** All that can be seen, in parts, so that no object is called too often. */
    private String look(int part) {
        StringBuilder seen = new StringBuilder();
        switch (part) {
            case 0:
                for (int what : new int[] {0, 1, 10, 11, 12, 21, 22, 31, 32, 41, 42}) {
                    seen.append(call("told", what)).append(' ');
                }
                seen.append(call("fault")).append(' ').append(allFiles());
                break;
            case 1:
                seen.append(pairs(1)).append(' ').append(pairs(2));
                break;
            case 2:
                seen.append(entries(4)).append(' ').append(clashes());
                break;
            case 3:
            case 4:
                seen.append(call("restore", part - 3)).append(' ').append(call("told", 1)).append(' ').append(allFiles());
                break;
            case 5:
                seen.append(call("put", 1)).append(' ').append(call("wipe")).append(' ').append(files(1));
                break;
            default:
                for (int folder : new int[] {0, 100, 110, 120, 123, 200, 230, 300, 310, 400, 444}) {
                    for (int side = 1; side <= 2; side++) {
                        seen.append(call("moved", side, folder, 0)).append(' ').append(call("moved", side, folder, 1));
                        seen.append(' ').append(call("dest", side, folder)).append(' ');
                    }
                }
        }
        check.due(title + ": a look with more than " + MOST_CALLS + " calls", calls > MOST_CALLS ? calls : 0, 0);
        return seen.toString();
    }

    private String allFiles() {
        return files(0) + " / " + files(1) + " / " + files(2);
    }

    private int call(String name, int... n) {
        calls++;
        switch (name + "/" + n.length) {
            case "say/1": return x.say(n[0]);
            case "wipe/0": return x.wipe();
            case "fault/0": return x.fault();
            case "put/1": return x.put(n[0]);
            case "drop/2": return x.drop(n[0], n[1]);
            case "file/3": return x.file(n[0], n[1], n[2]);
            case "copy/1": return x.copy(n[0]);
            case "limit/1": return x.limit(n[0]);
            case "alike/4": return x.alike(n[0], n[1], n[2], n[3]);
            case "pair/3": return x.pair(n[0], n[1], n[2]);
            case "origin/2": return x.origin(n[0], n[1]);
            case "votes/3": return x.votes(n[0], n[1], n[2]);
            case "moved/3": return x.moved(n[0], n[1], n[2]);
            case "dest/2": return x.dest(n[0], n[1]);
            case "entry/2": return x.entry(n[0], n[1]);
            case "clash/2": return x.clash(n[0], n[1]);
            case "settle/0": return x.settle();
            case "exchange/0": return x.exchange();
            case "image/1": return x.image(n[0]);
            case "restore/1": return x.restore(n[0]);
            case "told/1": return x.told(n[0]);
            default: throw new IllegalStateException("the test itself is wrong: " + name);
        }
    }
}
