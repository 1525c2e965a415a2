import java.util.ArrayList;
import java.util.Comparator;
import java.util.HashMap;
import java.util.HashSet;
import java.util.List;
import java.util.Map;
import java.util.Set;
import java.util.TreeMap;

/**
 * The document once more, as plainly as it can be written, with texts and the library's
 * collections: what the class answers is compared with this.
 */
final class PlainModel {
    record Entry(int path, String content, int causes, int from) { }

    record Pair(int base, int side, int way) { }

    record Clash(int path, int causes) { }

    final StringBuilder pad = new StringBuilder();
    List<TreeMap<Integer, String>> trees = new ArrayList<>();
    int limit = 50;
    final List<List<TreeMap<Integer, String>>> imageTrees = new ArrayList<>();
    final int[] imageLimits = new int[2];
    static final List<String> FOLDERS = allFolders();
    static final Map<Integer, String> BY_NUMBER = byNumber();

    // What was found for just these trees and this limit: found anew when they are others.
    private String foundFor = "";
    private final Map<Integer, List<Pair>> foundPairs = new HashMap<>();
    private final Map<String, String> foundTargets = new HashMap<>();
    private List<Entry> foundEntries = null;

    PlainModel() {
        for (int k = 0; k < 3; k++) {
            trees.add(new TreeMap<>());
        }
        imageTrees.add(null);
        imageTrees.add(null);
    }

    // ---- numbers and texts

    static List<String> allFolders() {
        List<String> all = new ArrayList<>();
        all.add("");
        for (int k = 0; k < all.size(); k++) {
            if (all.get(k).length() < 3) {
                for (char c = 'A'; c <= 'D'; c++) {
                    all.add(all.get(k) + c);
                }
            }
        }
        return all;
    }

    static int number(String folder) {
        String figures = "";
        for (char c : folder.toCharArray()) {
            figures += (c - 'A' + 1);
        }
        return Integer.parseInt((figures + "000").substring(0, 3));
    }

    static Map<Integer, String> byNumber() {
        Map<Integer, String> all = new HashMap<>();
        for (String folder : FOLDERS) {
            all.put(number(folder), folder);
        }
        return all;
    }

    static String folderOf(int number) {
        return BY_NUMBER.get(number);
    }

    private void forgetIfChanged() {
        String now = trees + " " + limit;
        if (!now.equals(foundFor)) {
            foundFor = now;
            foundPairs.clear();
            foundTargets.clear();
            foundEntries = null;
        }
    }

    static int content(String pieces) {
        return Integer.parseInt("1" + pieces);
    }

    List<Integer> paths(int tree) {
        return new ArrayList<>(trees.get(tree).keySet());
    }

    int path(int tree, int i) {
        return paths(tree).get(i);
    }

    String folder(int tree, int i) {
        return folderOf(path(tree, i) / 10);
    }

    String pieces(int tree, int i) {
        return trees.get(tree).get(path(tree, i));
    }

    int size(int tree) {
        return trees.get(tree).size();
    }

    boolean side(int side) {
        return side == 1 || side == 2;
    }

    boolean isFile(int tree, int i) {
        return tree >= 0 && tree <= 2 && i >= 0 && i < size(tree);
    }

    // ---- 1 files

    int say(int sign) {
        if (sign < 33 || sign > 126) {
            return -2;
        }
        if (pad.length() == 60) {
            return -4;
        }
        pad.append((char) sign);
        return pad.length();
    }

    int wipe() {
        int n = pad.length();
        pad.setLength(0);
        return n;
    }

    int fault() {
        String text = pad.toString();
        for (int k = 1; k <= text.length(); k++) {
            if (!text.substring(0, k).matches("[A-D]{0,3}([a-h](=[0-9]{0,6})?)?")) {
                return k - 1;
            }
        }
        return text.matches("[A-D]{0,3}[a-h]=[0-9]{0,6}") ? -6 : text.length();
    }

    int put(int tree) {
        if (tree < 0 || tree > 2) {
            return -1;
        }
        if (fault() != -6) {
            return -5;
        }
        String[] halves = (pad + " ").split("=");
        String folder = halves[0].substring(0, halves[0].length() - 1);
        int path = 10 * number(folder) + halves[0].charAt(folder.length()) - 'a';
        if (size(tree) == 12 && !trees.get(tree).containsKey(path)) {
            return -4;
        }
        trees.get(tree).put(path, halves[1].trim());
        pad.setLength(0);
        return size(tree);
    }

    int drop(int tree, int i) {
        if (!isFile(tree, i)) {
            return -1;
        }
        trees.get(tree).remove(path(tree, i));
        return size(tree);
    }

    int file(int tree, int i, int what) {
        if (!isFile(tree, i)) {
            return -1;
        }
        return what == 0 ? path(tree, i) : what == 1 ? content(pieces(tree, i)) : -2;
    }

    int copy(int side) {
        if (!side(side)) {
            return -1;
        }
        trees.set(side, new TreeMap<>(trees.get(0)));
        return size(0);
    }

    // ---- 2 pairs

    int limit(int percent) {
        if (percent < 1 || percent > 100) {
            return -2;
        }
        int before = limit;
        limit = percent;
        return before;
    }

    static int alikeness(String a, String b) {
        if (a.isEmpty() && b.isEmpty()) {
            return 100;
        }
        int both = 0;
        String left = b;
        for (char c : a.toCharArray()) {
            int at = left.indexOf(c);
            if (at >= 0) {
                both++;
                left = left.substring(0, at) + left.substring(at + 1);
            }
        }
        return 100 * both / Math.max(a.length(), b.length());
    }

    int alike(int tree, int i, int other, int j) {
        return isFile(tree, i) && isFile(other, j) ? alikeness(pieces(tree, i), pieces(other, j)) : -1;
    }

    List<Pair> pairs(int side) {
        forgetIfChanged();
        if (!foundPairs.containsKey(side)) {
            foundPairs.put(side, findPairs(side));
        }
        return foundPairs.get(side);
    }

    List<Pair> findPairs(int side) {
        List<Pair> all = new ArrayList<>();
        Set<Integer> usedBase = new HashSet<>();
        Set<Integer> usedSide = new HashSet<>();
        for (int way = 0; way <= 2; way++) {
            Pair next = best(side, way, usedBase, usedSide);
            while (next != null) {
                all.add(next);
                usedBase.add(next.base);
                usedSide.add(next.side);
                next = best(side, way, usedBase, usedSide);
            }
        }
        return all;
    }

    Pair best(int side, int way, Set<Integer> usedBase, Set<Integer> usedSide) {
        List<Pair> open = new ArrayList<>();
        for (int i = 0; i < size(0); i++) {
            for (int j = 0; j < size(side); j++) {
                if (!usedBase.contains(i) && !usedSide.contains(j) && fits(side, way, i, j)) {
                    open.add(new Pair(i, j, way));
                }
            }
        }
        Comparator<Pair> order = Comparator.comparingInt(
            (Pair p) -> way == 2 ? -alikeness(pieces(0, p.base), pieces(side, p.side)) : 0);
        order = order.thenComparingInt(p -> path(0, p.base) % 10 == path(side, p.side) % 10 ? 0 : 1);
        order = order.thenComparingInt(Pair::base).thenComparingInt(Pair::side);
        open.sort(order);
        return open.isEmpty() ? null : open.get(0);
    }

    boolean fits(int side, int way, int i, int j) {
        String a = pieces(0, i);
        String b = pieces(side, j);
        if (way == 0) {
            return path(0, i) == path(side, j);
        }
        if (a.isEmpty() || b.isEmpty()) {
            return false;
        }
        return way == 1 ? a.equals(b) : alikeness(a, b) >= limit;
    }

    Pair pairOfBase(int side, int i) {
        for (Pair p : pairs(side)) {
            if (p.base == i) {
                return p;
            }
        }
        return null;
    }

    Pair pairOfSide(int side, int j) {
        for (Pair p : pairs(side)) {
            if (p.side == j) {
                return p;
            }
        }
        return null;
    }

    int pair(int side, int i, int what) {
        if (!side(side) || !isFile(0, i)) {
            return -1;
        }
        if (what != 0 && what != 1) {
            return -2;
        }
        Pair p = pairOfBase(side, i);
        return p == null ? -6 : what == 0 ? p.side : p.way;
    }

    int origin(int side, int i) {
        if (!side(side) || !isFile(side, i)) {
            return -1;
        }
        Pair p = pairOfSide(side, i);
        return p == null ? -6 : p.base;
    }

    // ---- 3 folders

    int countVotes(int side, String folder, String to) {
        int n = 0;
        for (Pair p : pairs(side)) {
            if (folder(0, p.base).equals(folder) && folder(side, p.side).equals(to)) {
                n++;
            }
        }
        return n;
    }

    int votes(int side, int folder, int to) {
        if (!side(side)) {
            return -1;
        }
        if (folderOf(folder) == null || folderOf(to) == null || folder == to) {
            return -2;
        }
        return countVotes(side, folderOf(folder), folderOf(to));
    }

    boolean holds(int tree, String folder) {
        for (int i = 0; i < size(tree); i++) {
            if (folder(tree, i).equals(folder)) {
                return true;
            }
        }
        return false;
    }

    String target(int side, String folder) {
        forgetIfChanged();
        String key = side + folder;
        if (!foundTargets.containsKey(key)) {
            foundTargets.put(key, findTarget(side, folder));
        }
        return foundTargets.get(key);
    }

    String findTarget(int side, String folder) {
        if (!holds(0, folder) || holds(side, folder)) {
            return null;
        }
        TreeMap<String, Integer> tally = new TreeMap<>();
        for (Pair p : pairs(side)) {
            if (folder(0, p.base).equals(folder)) {
                tally.merge(folder(side, p.side), 1, Integer::sum);
            }
        }
        String winner = null;
        int most = 0;
        for (int n : tally.values()) {
            most = Math.max(most, n);
        }
        int winners = 0;
        for (String to : tally.keySet()) {
            if (tally.get(to) == most) {
                winner = to;
                winners++;
            }
        }
        return winners == 1 ? winner : null;
    }

    boolean leads(String at, String home, Set<String> seen) {
        if (at == null || !seen.add(at)) {
            return false;
        }
        return at.equals(home) || leads(target(1, at), home, seen) || leads(target(2, at), home, seen);
    }

    boolean loop(int side, String folder) {
        return leads(target(side, folder), folder, new HashSet<>());
    }

    int moved(int side, int folder, int what) {
        if (!side(side)) {
            return -1;
        }
        if (folderOf(folder) == null || (what != 0 && what != 1)) {
            return -2;
        }
        String to = target(side, folderOf(folder));
        if (to == null) {
            return -6;
        }
        return what == 0 ? number(to) : loop(side, folderOf(folder)) ? 1 : 0;
    }

    String destination(int side, String folder) {
        for (int left = folder.length(); left >= 0; left--) {
            String front = folder.substring(0, left);
            String to = target(side, front);
            if (to != null && !loop(side, front)) {
                String whole = to + folder.substring(left);
                return whole.length() > 3 ? folder : whole;
            }
        }
        return folder;
    }

    int dest(int side, int folder) {
        if (!side(side)) {
            return -1;
        }
        return folderOf(folder) == null ? -2 : number(destination(side, folderOf(folder)));
    }

    // ---- 4 the merge

    List<Entry> merge() {
        forgetIfChanged();
        if (foundEntries == null) {
            List<Entry> entries = findEntries();
            foundEntries = entries;
        }
        return foundEntries;
    }

    List<Entry> findEntries() {
        List<Entry> all = new ArrayList<>();
        for (int i = 0; i < size(0); i++) {
            Entry old = oldEntry(i);
            if (old != null) {
                all.add(old);
            }
        }
        all.addAll(newEntries());
        List<Entry> marked = new ArrayList<>();
        for (Entry e : all) {
            long there = all.stream().filter(o -> o.path == e.path).count();
            marked.add(there > 1 ? new Entry(e.path, e.content, e.causes | 8, e.from) : e);
        }
        marked.sort(Comparator.comparingInt(Entry::path).thenComparingInt(e -> content(e.content))
            .thenComparingInt(Entry::causes).thenComparingInt(Entry::from));
        return marked;
    }

    Entry oldEntry(int i) {
        Pair one = pairOfBase(1, i);
        Pair two = pairOfBase(2, i);
        if (one == null && two == null) {
            return null;
        }
        int causes = 0;
        int[] path = {path(0, i), one == null ? path(0, i) : path(1, one.side),
            two == null ? path(0, i) : path(2, two.side)};
        String[] text = {pieces(0, i), one == null ? pieces(0, i) : pieces(1, one.side),
            two == null ? pieces(0, i) : pieces(2, two.side)};
        if (one == null || two == null) {
            int other = one == null ? 2 : 1;
            if (path[other] == path[0] && text[other].equals(text[0])) {
                return null;
            }
            causes = 2;
        }
        int folder;
        int[] f = {path[0] / 10, path[1] / 10, path[2] / 10};
        if (f[1] == f[2]) {
            folder = f[1];
        } else if (f[1] == f[0]) {
            folder = number(destination(1, folderOf(f[2])));
        } else if (f[2] == f[0]) {
            folder = number(destination(2, folderOf(f[1])));
        } else {
            folder = Math.min(f[1], f[2]);
            causes |= 1;
        }
        int name;
        int[] n = {path[0] % 10, path[1] % 10, path[2] % 10};
        if (n[1] == n[2]) {
            name = n[1];
        } else if (n[1] == n[0]) {
            name = n[2];
        } else if (n[2] == n[0]) {
            name = n[1];
        } else {
            name = Math.min(n[1], n[2]);
            causes |= 1;
        }
        String content;
        if (text[1].equals(text[2])) {
            content = text[1];
        } else if (text[1].equals(text[0])) {
            content = text[2];
        } else if (text[2].equals(text[0])) {
            content = text[1];
        } else if (text[0].length() == text[1].length() && text[0].length() == text[2].length()) {
            content = "";
            for (int k = 0; k < text[0].length(); k++) {
                char c = text[0].charAt(k);
                char c1 = text[1].charAt(k);
                char c2 = text[2].charAt(k);
                if (c1 == c2 || c2 == c) {
                    content += c1;
                } else if (c1 == c) {
                    content += c2;
                } else {
                    content += (char) Math.min(c1, c2);
                    causes |= 4;
                }
            }
        } else {
            content = content(text[1]) < content(text[2]) ? text[1] : text[2];
            causes |= 4;
        }
        return new Entry(10 * folder + name, content, causes, i);
    }

    List<Entry> newOf(int side) {
        List<Entry> all = new ArrayList<>();
        for (int j = 0; j < size(side); j++) {
            if (pairOfSide(side, j) == null) {
                int folder = number(destination(3 - side, folder(side, j)));
                all.add(new Entry(10 * folder + path(side, j) % 10, pieces(side, j), 0, 100 * side + j));
            }
        }
        return all;
    }

    List<Entry> newEntries() {
        List<Entry> all = new ArrayList<>();
        List<Entry> left = newOf(2);
        for (Entry one : newOf(1)) {
            for (Entry two : left) {
                if (two.path == one.path && two.content.equals(one.content)) {
                    left.remove(two);
                    break;
                }
            }
            all.add(one);
        }
        all.addAll(left);
        return all;
    }

    int entry(int i, int what) {
        if (what < 0 || what > 3 || (i == -1 && what != 0)) {
            return -2;
        }
        List<Entry> all = merge();
        if (i == -1) {
            return all.size();
        }
        if (i < 0 || i >= all.size()) {
            return -6;
        }
        Entry e = all.get(i);
        return what == 0 ? e.path : what == 1 ? content(e.content) : what == 2 ? e.causes : e.from;
    }

    List<Clash> clashes() {
        TreeMap<Integer, Integer> all = new TreeMap<>();
        for (Entry e : merge()) {
            if (e.causes != 0) {
                all.merge(e.path, e.causes, (a, b) -> a | b);
            }
        }
        List<Clash> list = new ArrayList<>();
        all.forEach((path, causes) -> list.add(new Clash(path, causes)));
        return list;
    }

    int clash(int i, int what) {
        if (what < 0 || what > 1 || (i == -1 && what != 0)) {
            return -2;
        }
        List<Clash> all = clashes();
        if (i == -1) {
            return all.size();
        }
        if (i < 0 || i >= all.size()) {
            return -6;
        }
        return what == 0 ? all.get(i).path : all.get(i).causes;
    }

    int settle() {
        if (!clashes().isEmpty()) {
            return -5;
        }
        List<Entry> all = merge();
        if (all.size() > 12) {
            return -4;
        }
        for (int tree = 0; tree < 3; tree++) {
            TreeMap<Integer, String> files = new TreeMap<>();
            for (Entry e : all) {
                files.put(e.path, e.content);
            }
            trees.set(tree, files);
        }
        return all.size();
    }

    int exchange() {
        TreeMap<Integer, String> one = trees.get(1);
        trees.set(1, trees.get(2));
        trees.set(2, one);
        return 1;
    }

    static List<TreeMap<Integer, String>> copyOf(List<TreeMap<Integer, String>> trees) {
        List<TreeMap<Integer, String>> copy = new ArrayList<>();
        for (TreeMap<Integer, String> tree : trees) {
            copy.add(new TreeMap<>(tree));
        }
        return copy;
    }

    int image(int k) {
        if (k != 0 && k != 1) {
            return -2;
        }
        imageTrees.set(k, copyOf(trees));
        imageLimits[k] = limit;
        return 1;
    }

    int restore(int k) {
        if (k != 0 && k != 1) {
            return -2;
        }
        if (imageTrees.get(k) == null) {
            return -3;
        }
        trees = copyOf(imageTrees.get(k));
        limit = imageLimits[k];
        return 1;
    }

    int told(int what) {
        switch (what) {
            case 0: return pad.length();
            case 1: return limit;
            case 10: case 11: case 12: return size(what - 10);
            case 21: case 22: return size(0) - pairs(what - 20).size();
            case 31: case 32: return size(what - 30) - pairs(what - 30).size();
            case 41: case 42:
                int n = 0;
                for (String folder : FOLDERS) {
                    n += target(what - 40, folder) == null ? 0 : 1;
                }
                return n;
            default: return -2;
        }
    }
}
