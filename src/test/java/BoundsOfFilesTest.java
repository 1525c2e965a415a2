import java.util.HashMap;
import java.util.Map;

/** The bounds of TREES, FILES, FOLDERS, NAMES, PIECES and the PAD: promises 1 to 8. */
public final class BoundsOfFilesTest {
    private static final Check CHECK = new Check("BoundsOfFilesTest");
    private static final String ELEVEN = " a=1 b=2 c=3 d=4 e=5 f=6 g=7 h=8 Aa=9 Ab=0 Ac=1 -> 11\n";
    private static final String FIFTY_SIX = "!".repeat(56);

    public static void main(String[] args) {
        newObject();
        trees();
        upToTwelveFiles();
        eachAtAnotherPath();
        names();
        folders();
        pathNumbers();
        pieces();
        thePad();
        theFault();
        numberedByPaths();
        dropFileCopy();
        CHECK.end();
    }

    private static void newObject() {
        Script.run(CHECK, "a new object: no FILES, no signs, the LIMIT is 50, no IMAGE", """
            told 0 -> 0
            told 1 -> 50
            told 10..12 -> 0
            told 21..22 -> 0
            told 31..32 -> 0
            told 41..42 -> 0
            file 0..2 0 0|1 -> UNKNOWN
            drop 0..2 0 -> UNKNOWN
            entry -1 0 -> 0
            clash -1 0 -> 0
            restore 0|1 -> STATE
            fault -> 0
            wipe -> 0
            """);
    }

    private static void trees() {
        Script.run(CHECK, "TREES are 0, 1 and 2: put", """
            tell a= -> 2
            put -1|3|4|256|65536|LEAST|MOST -> UNKNOWN
            put 0 -> 1
            lay 1 a= -> 1
            lay 2 a= -> 1
            """);
        Script.run(CHECK, "TREES are 0, 1 and 2: drop and file", """
            lay 0 a=1 -> 1
            copy 1|2 -> 1
            file -1|3|4|256|65536|LEAST|MOST 0 0|1 -> UNKNOWN
            drop -1|3|4|256|65536|LEAST|MOST 0 -> UNKNOWN
            file 0..2 0 1 -> 11
            drop 0..2 0 -> 0
            """);
        Script.run(CHECK, "SIDES are 1 and 2: copy", """
            lay 0 a=1 -> 1
            copy -1|0|3|4|256|65536|LEAST|MOST -> UNKNOWN
            copy 1|2 -> 1
            """);
    }

    private static void upToTwelveFiles() {
        for (int tree = 0; tree <= 2; tree++) {
            Script.run(CHECK, "up to 12 FILES, in tree " + tree, "lay " + tree + ELEVEN, ("""
                lay T Ad=2 -> 12
                tell Ae=3 -> 4
                put T -> FULL
                told 1T -> 12
                file T 11 0 -> 1003
                file T 12 0 -> UNKNOWN
                drop T 11 -> 11
                put T -> 12
                file T 11 0 -> 1004
                """).replace("T", "" + tree));
            Script.run(CHECK, "one at its PATH is replaced in a full tree " + tree, "lay " + tree + ELEVEN, ("""
                lay T Ad=2 -> 12
                lay T a=77 -> 12
                lay T h= -> 12
                lay T Ad=999999 -> 12
                told 0 -> 0
                file T 0 1 -> 177
                file T 7 1 -> 1
                file T 11 1 -> 1999999
                """).replace("T", "" + tree));
        }
        Script.run(CHECK, "each TREE has its own 12", "lay 0" + ELEVEN, """
            lay 0 Ad=2 -> 12
            copy 1 -> 12
            tell Ba=1 -> 4
            put 0|1 -> FULL
            put 2 -> 1
            """);
    }

    private static void eachAtAnotherPath() {
        Script.run(CHECK, "each at another PATH: in place of one at its PATH", """
            lay 1 ABCa=1 ABCa=2 ABCa= -> 1
            files 1 -> 1230:1
            lay 1 ABCb= ABa= BCa= a= -> 5
            files 1 -> 0:1 1200:1 1230:1 1231:1 2300:1
            """);
    }

    private static void fault(String text, String want) {
        Script.run(CHECK, "THE FAULT of " + text, (text.isEmpty() ? "" : "tell " + text + " -> " + text.length() + "\n")
            + "fault -> " + want + (want.equals("NONE") ? "\nput 1 -> 1\nfault -> 0" : "\nput 1 -> NO\nfault -> " + want));
    }

    private static void names() {
        Script.run(CHECK, "a NAME is 0 to 7 (a to h)", """
            lay 0 a= b= c= d= e= f= g= h= -> 8
            files 0 -> 0:1 1:1 2:1 3:1 4:1 5:1 6:1 7:1
            """);
        fault("`=", "0");
        fault("i=", "0");
        fault("z=", "0");
        fault("AB`=", "2");
        fault("ABi=", "2");
        fault("ABCi=", "3");
    }

    private static Map<Integer, String> allFolders() {
        Map<Integer, String> all = new HashMap<>();
        all.put(0, "");
        for (int a = 1; a <= 4; a++) {
            all.put(100 * a, letters(a));
            for (int b = 1; b <= 4; b++) {
                all.put(100 * a + 10 * b, letters(a, b));
                for (int c = 1; c <= 4; c++) {
                    all.put(100 * a + 10 * b + c, letters(a, b, c));
                }
            }
        }
        return all;
    }

    private static String letters(int... figures) {
        StringBuilder text = new StringBuilder();
        for (int figure : figures) {
            text.append((char) ('A' + figure - 1));
        }
        return text.toString();
    }

    private static void folders() {
        Map<Integer, String> all = allFolders();
        CHECK.due("how many FOLDERS there are", all.size(), 85);
        for (int folder : all.keySet()) {
            Script.run(CHECK, "a FOLDER is a row of none to three letters A to D", "lay 2 " + all.get(folder) + "a= -> 1",
                "file 2 0 0 -> " + 10 * folder);
        }
        int[] far = {65536, 65536 + 100, 256 + 100, 100 - 65536, Integer.MIN_VALUE, Integer.MIN_VALUE + 100,
            Integer.MIN_VALUE + 444, Integer.MAX_VALUE, Integer.MAX_VALUE - 444, -2000000000, 2000000000};
        for (int folder = -1111; folder <= 4500; folder++) {
            folderNumber(folder, all.containsKey(folder));
        }
        for (int folder : far) {
            folderNumber(folder, false);
        }
        fault("ABCDa=", "3");
        fault("@a=", "0");
        fault("Ea=", "0");
        fault("A@a=", "1");
        fault("AEa=", "1");
        fault("AB@a=", "2");
        fault("ABEa=", "2");
    }

    private static void folderNumber(int folder, boolean known) {
        MovedFolders x = new MovedFolders();
        int other = folder == 444 ? 443 : 444;
        String call = "the number " + folder + " of a FOLDER: ";
        CHECK.due(call + "dest", x.dest(1, folder), known ? folder : MovedFolders.OUTSIDE);
        CHECK.due(call + "moved", x.moved(2, folder, 0), known ? MovedFolders.NONE : MovedFolders.OUTSIDE);
        CHECK.due(call + "votes of", x.votes(1, folder, other), known ? 0 : MovedFolders.OUTSIDE);
        CHECK.due(call + "votes for", x.votes(2, other, folder), known ? 0 : MovedFolders.OUTSIDE);
        CHECK.due(call + "votes for itself", x.votes(2, folder, folder), MovedFolders.OUTSIDE);
    }

    private static void pathNumbers() {
        Script.run(CHECK, "a PATH's number is 10 times that of the FOLDER, and the NAME", """
            lay 0 a= h= Aa= Ah= ABa= DDDa= DDDh= -> 7
            files 0 -> 0:1 7:1 1000:1 1007:1 1200:1 4440:1 4447:1
            """);
    }

    private static void pieces() {
        Script.run(CHECK, "CONTENT: none to six PIECES 0 to 9; its number is 1 and these figures", """
            lay 0 a= b=0 c=9 d=05 e=000000 f=999999 g=012345 h=99999 -> 8
            files 0 -> 0:1 1:10 2:19 3:105 4:1000000 5:1999999 6:1012345 7:199999
            """);
        fault("a=/", "2");
        fault("a=:", "2");
        fault("a=12345/", "7");
        fault("a=12345:", "7");
        fault("a=123456", "NONE");
        fault("a=1234567", "8");
        fault("a=1234560", "8");
        fault("DDDh=999999", "NONE");
        fault("DDDh=9999999", "11");
    }

    private static void thePad() {
        Script.run(CHECK, "codes 33 to 126", """
            say 32|127|128|0|-1|31|LEAST|MOST -> OUTSIDE
            say 289|353|65569|65633|-65439|-2147483551 -> OUTSIDE
            told 0 -> 0
            say 33 -> 1
            say 126 -> 2
            """);
        for (int sign = -300; sign <= 700; sign++) {
            CHECK.due("say " + sign, new MovedFolders().say(sign), sign >= 33 && sign <= 126 ? 1 : MovedFolders.OUTSIDE);
        }
        Script.run(CHECK, "a PAD of up to 60 signs", "tell " + FIFTY_SIX + "abc -> 59", """
            say 97 -> 60
            say 97 -> FULL
            say 33|126 -> FULL
            told 0 -> 60
            fault -> 0
            wipe -> 60
            say 97 -> 1
            """);
        Script.run(CHECK, "wipe: signs go, how many there were", """
            wipe -> 0
            say 33 -> 1
            wipe -> 1
            wipe -> 0
            told 0 -> 0
            fault -> 0
            tell a= -> 2
            wipe -> 2
            put 0 -> NO
            """);
        Script.run(CHECK, "the PAD is empty when a FILE has been put", """
            tell Aa=123456 -> 9
            put 0 -> 1
            told 0 -> 0
            fault -> 0
            wipe -> 0
            put 0 -> NO
            """);
    }

    private static void theFault() {
        fault("", "0");
        fault("A", "1");
        fault("AA", "2");
        fault("AAA", "3");
        fault("a", "1");
        fault("Aa", "2");
        fault("AAAa", "4");
        fault("a=", "NONE");
        fault("AAAa=", "NONE");
        fault("AAAA", "3");
        fault("aa", "1");
        fault("aA", "1");
        fault("a0", "1");
        fault("=", "0");
        fault("0", "0");
        fault("AAA=", "3");
        fault("a==", "2");
        fault("a=a", "2");
        fault("a=A", "2");
        fault("a=0=", "3");
        fault("a=0a", "3");
        fault("a<", "1");
        fault("a>", "1");
        Script.run(CHECK, "the first sign that can not stand there is told, not a later one", """
            tell a=1!2= -> 6
            fault -> 3
            tell !! -> 8
            fault -> 3
            """);
        Script.run(CHECK, "a FAULT on a full PAD", "tell a=1" + FIFTY_SIX + "! -> 60", """
            fault -> 3
            put 0 -> NO
            told 0 -> 60
            """);
        Script.run(CHECK, "a FAULT at the end of a full PAD is the first all the same",
            "tell AAA" + "A".repeat(57) + " -> 60", "fault -> 3");
    }

    private static void numberedByPaths() {
        Script.run(CHECK, "FILES are numbered by PATHS, rising, from 0 on", """
            lay 2 DDDh=1 a=2 -> 2
            lay 2 BAa=3 Bh=4 Ba=5 -> 5
            files 2 -> 0:12 2000:15 2007:14 2100:13 4447:11
            file 2 -1|5|12|LEAST|MOST 0|1 -> UNKNOWN
            drop 2 0 -> 4
            file 2 0 0 -> 2000
            file 2 4 0 -> UNKNOWN
            """);
    }

    private static void dropFileCopy() {
        Script.run(CHECK, "drop: the first, the last, the only one, and none", """
            lay 0 a=1 b=2 c=3 d=4 -> 4
            drop 0 -1|4|5|12|LEAST|MOST -> UNKNOWN
            drop 0 3 -> 3
            drop 0 0 -> 2
            files 0 -> 1:12 2:13
            drop 0 1 -> 1
            drop 0 1 -> UNKNOWN
            drop 0 0 -> 0
            drop 0 0 -> UNKNOWN
            files 0 -> none
            """);
        Script.run(CHECK, "file: what is 0 or 1", """
            lay 1 Ca=05 -> 1
            file 1 0 0 -> 3000
            file 1 0 1 -> 105
            file 1 0 -1|2|3|256|65536|LEAST|MOST -> OUTSIDE
            """);
        Script.run(CHECK, "copy of a BASE without FILES: the SIDE has none", """
            lay 1 a=1 b=2 -> 2
            lay 2 c=3 -> 1
            copy 1 -> 0
            files 1 -> none
            files 2 -> 2:13
            """);
        Script.run(CHECK, "copy of a full BASE, over a full SIDE: just the FILES of BASE", "lay 0" + ELEVEN, """
            lay 0 Ad=2 -> 12
            lay 1 Ba= Bb= Bc= Bd= Be= Bf= Bg= Bh= BAa= BAb= BAc= BAd= -> 12
            copy 1 -> 12
            files 1 -> 0:11 1:12 2:13 3:14 4:15 5:16 6:17 7:18 1000:19 1001:10 1002:11 1003:12
            told 31 -> 0
            told 21 -> 0
            drop 0 0 -> 11
            told 11 -> 12
            """);
    }
}
