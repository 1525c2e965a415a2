import java.util.Random;

/** Runs of calls, the same ones each time, on the class and on the plain model side by side. */
public final class ReferenceTest {
    private static final int[] ODD = {Integer.MIN_VALUE, -1000, -7, -6, -5, -2, -1, 0, 1, 2, 3, 4, 5, 10, 11, 12, 13,
        20, 21, 36, 40, 44, 50, 99, 100, 101, 110, 111, 120, 201, 210, 400, 444, 445, 450, 500, 544, 1000,
        Integer.MAX_VALUE};

    private final Check check = new Check("ReferenceTest");
    private Random random;
    private MovedFolders x;
    private PlainModel m;
    private String[] folders;
    private int kindsOfPiece;
    private int mostPieces;

    public static void main(String[] args) {
        int runs = args.length > 0 ? Integer.parseInt(args[0]) : 400;
        int first = args.length > 1 ? Integer.parseInt(args[1]) : 0;
        ReferenceTest test = new ReferenceTest();
        for (int run = first; run < first + runs; run++) {
            test.run(run);
        }
        test.check.end();
    }

    private void run(int seed) {
        random = new Random(seed);
        x = new MovedFolders();
        m = new PlainModel();
        folders = new String[1 + random.nextInt(6)];
        for (int k = 0; k < folders.length; k++) {
            folders[k] = PlainModel.FOLDERS.get(random.nextInt(random.nextBoolean() ? 21 : 85));
        }
        kindsOfPiece = 1 + random.nextInt(10);
        mostPieces = 1 + random.nextInt(6);
        int files = random.nextInt(13);
        for (int k = 0; k < files; k++) {
            lay(0, anyFolder(), random.nextInt(8), anyContent());
        }
        for (int side = 1; side <= 2; side++) {
            if (random.nextInt(5) != 0) {
                due("copy", x.copy(side), m.copy(side));
            }
            int steps = random.nextInt(6);
            for (int k = 0; k < steps; k++) {
                change(side);
            }
        }
        observe();
        int later = random.nextInt(4);
        for (int k = 0; k < later; k++) {
            anyStep();
            observe();
        }
    }

    private void due(String call, int got, int want) {
        check.due(call, got, want);
    }

    private String anyFolder() {
        return folders[random.nextInt(folders.length)];
    }

    private String anyContent() {
        String pieces = "";
        int n = random.nextInt(mostPieces + 1);
        for (int k = 0; k < n; k++) {
            pieces += random.nextInt(kindsOfPiece);
        }
        return pieces;
    }

    private String edited(String content) {
        if (content.isEmpty()) {
            return anyContent();
        }
        int at = random.nextInt(content.length());
        String rest = content.substring(at + 1);
        switch (random.nextInt(4)) {
            case 0: return content.substring(0, at) + rest;
            case 1: return new StringBuilder(content).reverse().toString();
            default: return content.substring(0, at) + random.nextInt(kindsOfPiece) + rest;
        }
    }

    private void say(String text) {
        for (char c : text.toCharArray()) {
            due("say", x.say(c), m.say(c));
        }
    }

    private void lay(int tree, String folder, int name, String content) {
        say(folder + (char) ('a' + name) + "=" + content);
        due("put", x.put(tree), m.put(tree));
        due("wipe", x.wipe(), m.wipe());
    }

    private void change(int side) {
        int size = m.size(side);
        int i = size == 0 ? 0 : random.nextInt(size);
        int act = random.nextInt(8);
        if (size == 0 || act == 0) {
            lay(side, anyFolder(), random.nextInt(8), anyContent());
        } else if (act == 1) {
            due("drop", x.drop(side, i), m.drop(side, i));
        } else if (act == 2) {
            lay(side, m.folder(side, i), m.path(side, i) % 10, edited(m.pieces(side, i)));
        } else if (act == 3) {
            carry(side, i, anyFolder(), random.nextInt(8));
        } else if (act == 4) {
            carry(side, i, anyFolder(), m.path(side, i) % 10);
        } else {
            carryAll(side, m.folder(side, i), anyFolder());
        }
    }

    private void carry(int side, int i, String to, int name) {
        String content = random.nextInt(4) == 0 ? edited(m.pieces(side, i)) : m.pieces(side, i);
        due("drop", x.drop(side, i), m.drop(side, i));
        lay(side, to, name, content);
    }

    private void carryAll(int side, String from, String to) {
        for (int i = m.size(side) - 1; i >= 0; i--) {
            if (i < m.size(side) && m.folder(side, i).equals(from)) {
                carry(side, i, random.nextInt(8) == 0 ? anyFolder() : to, m.path(side, i) % 10);
            }
        }
    }

    private int odd() {
        return ODD[random.nextInt(ODD.length)];
    }

    private void anyStep() {
        switch (random.nextInt(15)) {
            case 0: case 1:
                due("settle", x.settle(), m.settle());
                break;
            case 2:
                due("exchange", x.exchange(), m.exchange());
                break;
            case 3: case 4:
                int k = odd();
                due("image", x.image(k), m.image(k));
                break;
            case 5: case 6:
                int l = odd();
                due("restore", x.restore(l), m.restore(l));
                break;
            case 7: case 8:
                int percent = random.nextBoolean() ? odd() : 1 + random.nextInt(100);
                due("limit", x.limit(percent), m.limit(percent));
                break;
            case 9:
                int sign = random.nextInt(140) - 5;
                due("say", x.say(sign), m.say(sign));
                break;
            case 10:
                int tree = random.nextInt(5) - 1;
                int i = random.nextInt(14) - 1;
                due("drop", x.drop(tree, i), m.drop(tree, i));
                break;
            case 11: case 12: case 13:
                change(random.nextInt(3));
                break;
            default:
                int other = odd();
                due("put", x.put(other), m.put(other));
                due("copy", x.copy(other), m.copy(other));
        }
    }

    private void observe() {
        due("fault", x.fault(), m.fault());
        observeFiles();
        observeFolders();
        for (int i = -2; i <= m.entry(-1, 0); i++) {
            for (int what = -1; what <= 4; what++) {
                due("entry " + i + " " + what, x.entry(i, what), m.entry(i, what));
            }
        }
        for (int i = -2; i <= m.clash(-1, 0); i++) {
            for (int what = -1; what <= 2; what++) {
                due("clash " + i + " " + what, x.clash(i, what), m.clash(i, what));
            }
        }
        for (int what = -1; what <= 51; what++) {
            due("told " + what, x.told(what), m.told(what));
        }
    }

    private void observeFiles() {
        for (int tree = -1; tree <= 3; tree++) {
            for (int i = -1; i <= 12; i++) {
                for (int what = -1; what <= 2; what++) {
                    due("file " + tree + " " + i, x.file(tree, i, what), m.file(tree, i, what));
                    due("pair " + tree + " " + i, x.pair(tree, i, what), m.pair(tree, i, what));
                }
                due("origin " + tree + " " + i, x.origin(tree, i), m.origin(tree, i));
                int other = random.nextInt(5) - 1;
                int j = random.nextInt(14) - 1;
                due("alike", x.alike(tree, i, other, j), m.alike(tree, i, other, j));
            }
        }
    }

    private void observeFolders() {
        for (int side = 0; side <= 3; side++) {
            for (int k = 0; k < folders.length; k++) {
                int folder = PlainModel.number(folders[k]);
                observeFolder(side, folder);
                observeFolder(side, PlainModel.number(PlainModel.FOLDERS.get(random.nextInt(85))));
                observeFolder(side, odd());
                int to = PlainModel.number(anyFolder());
                due("votes " + folder + " " + to, x.votes(side, folder, to), m.votes(side, folder, to));
                int wrong = odd();
                due("votes " + folder + " " + wrong, x.votes(side, folder, wrong), m.votes(side, folder, wrong));
                due("votes " + wrong + " " + to, x.votes(side, wrong, to), m.votes(side, wrong, to));
            }
            observeFolder(side, 0);
        }
    }

    private void observeFolder(int side, int folder) {
        due("dest " + side + " " + folder, x.dest(side, folder), m.dest(side, folder));
        for (int what = -1; what <= 2; what++) {
            due("moved " + side + " " + folder, x.moved(side, folder, what), m.moved(side, folder, what));
        }
    }
}
