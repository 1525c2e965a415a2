/** What all tests share: it counts wrong answers, and tells FILES by texts. */
final class Check {
    private final String test;
    private int asked = 0;
    private int wrong = 0;

    Check(String test) {
        this.test = test;
    }

    void due(String call, int got, int want) {
        asked++;
        if (got != want) {
            wrong++;
            System.out.println(test + ": " + call + " answered " + got + ", due is " + want);
        }
    }

    void same(String what, String got, String want) {
        asked++;
        if (!got.equals(want)) {
            wrong++;
            System.out.println(test + ": " + what + " is " + got + ", due is " + want);
        }
    }

    void end() {
        System.out.println(test + ": " + asked + " answers, " + wrong + " wrong");
        if (wrong != 0 || asked == 0) {
            System.exit(1);
        }
    }

    static void tell(MovedFolders x, String text) {
        for (int k = 0; k < text.length(); k++) {
            x.say(text.charAt(k));
        }
    }

    static int lay(MovedFolders x, int tree, String text) {
        tell(x, text);
        return x.put(tree);
    }

    /** FILES are told by texts with blanks between them. */
    static MovedFolders trees(String base, String one, String two) {
        MovedFolders x = new MovedFolders();
        String[] all = {base, one, two};
        for (int tree = 0; tree < 3; tree++) {
            for (String text : all[tree].trim().split(" +")) {
                if (!text.isEmpty() && lay(x, tree, text) < 0) {
                    throw new IllegalStateException("the test itself is wrong: " + text);
                }
            }
        }
        return x;
    }

    static String files(MovedFolders x, int tree) {
        StringBuilder all = new StringBuilder();
        for (int i = 0; i < x.told(10 + tree); i++) {
            all.append(i == 0 ? "" : " ").append(x.file(tree, i, 0)).append(':').append(x.file(tree, i, 1));
        }
        return all.toString();
    }

    /** All that a refused call must leave as it is. */
    static String state(MovedFolders x) {
        return x.told(0) + "," + x.fault() + "," + x.told(1) + " | " + files(x, 0) + " | " + files(x, 1)
            + " | " + files(x, 2);
    }

    /** Each as path:content:causes:from. */
    static String entries(MovedFolders x) {
        StringBuilder all = new StringBuilder();
        for (int i = 0; i < x.entry(-1, 0); i++) {
            all.append(i == 0 ? "" : " ").append(x.entry(i, 0)).append(':').append(x.entry(i, 1));
            all.append(':').append(x.entry(i, 2)).append(':').append(x.entry(i, 3));
        }
        return all.toString();
    }

    /** Each as path:causes. */
    static String clashes(MovedFolders x) {
        StringBuilder all = new StringBuilder();
        for (int i = 0; i < x.clash(-1, 0); i++) {
            all.append(i == 0 ? "" : " ").append(x.clash(i, 0)).append(':').append(x.clash(i, 1));
        }
        return all.toString();
    }

    /** For each FILE of BASE mate/way, then behind a bar each origin. */
    static String pairs(MovedFolders x, int side) {
        StringBuilder all = new StringBuilder();
        for (int i = 0; i < x.told(10); i++) {
            all.append(x.pair(side, i, 0)).append('/').append(x.pair(side, i, 1)).append(' ');
        }
        all.append('|');
        for (int j = 0; j < x.told(10 + side); j++) {
            all.append(' ').append(x.origin(side, j));
        }
        return all.toString();
    }
}
