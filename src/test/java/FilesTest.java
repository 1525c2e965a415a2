/** Promises 1 to 8: a new object, the pad, and the files of the trees. */
public final class FilesTest {
    private static final Check CHECK = new Check("FilesTest");
    private static final String TWELVE = "a= b= c= d= e= f= g= h= Aa= Ab= Ac= Ad=";

    public static void main(String[] args) {
        newObjectHasNoFiles();
        sayCountsSignsUpToSixty();
        wipeTellsHowMany();
        faultTellsThePlace();
        putLaysTheFileOfThePad();
        putRefuses();
        dropTakesOne();
        fileTellsPathAndContent();
        copyTakesJustTheFilesOfBase();
        CHECK.end();
    }

    private static void newObjectHasNoFiles() {
        MovedFolders x = new MovedFolders();
        CHECK.same("a new object", Check.state(x), "0,0,50 |  |  | ");
        CHECK.due("entry(-1, 0)", x.entry(-1, 0), 0);
        for (int what : new int[] {10, 11, 12, 21, 22, 31, 32, 41, 42}) {
            CHECK.due("told(" + what + ")", x.told(what), 0);
        }
    }

    private static void sayCountsSignsUpToSixty() {
        MovedFolders x = new MovedFolders();
        for (int sign : new int[] {32, 127, 0, -1, 97 + 256, Integer.MIN_VALUE, Integer.MAX_VALUE}) {
            CHECK.due("say(" + sign + ")", x.say(sign), MovedFolders.OUTSIDE);
        }
        CHECK.due("told(0)", x.told(0), 0);
        CHECK.due("say(33)", x.say(33), 1);
        CHECK.due("say(126)", x.say(126), 2);
        for (int n = 3; n <= 60; n++) {
            CHECK.due("say, " + n, x.say('a'), n);
        }
        CHECK.due("say, 61", x.say('a'), MovedFolders.FULL);
        CHECK.due("say(32), 61", x.say(32), MovedFolders.OUTSIDE);
        CHECK.due("told(0)", x.told(0), 60);
        CHECK.due("wipe()", x.wipe(), 60);
        CHECK.due("say(97)", x.say('a'), 1);
    }

    private static void wipeTellsHowMany() {
        MovedFolders x = new MovedFolders();
        CHECK.due("wipe()", x.wipe(), 0);
        Check.tell(x, "Aa=");
        CHECK.due("wipe()", x.wipe(), 3);
        CHECK.due("wipe()", x.wipe(), 0);
        CHECK.due("fault()", x.fault(), 0);
    }

    private static void fault(String text, int want) {
        MovedFolders x = new MovedFolders();
        Check.tell(x, text);
        CHECK.due("fault() of " + text, x.fault(), want);
        String before = Check.state(x);
        if (want != MovedFolders.NONE) {
            CHECK.due("put(1) of " + text, x.put(1), MovedFolders.NO);
            CHECK.same("after put(1) of " + text, Check.state(x), before);
        }
    }

    private static void faultTellsThePlace() {
        fault("", 0);
        fault("A", 1);
        fault("AB", 2);
        fault("ABC", 3);
        fault("ABCD", 3);
        fault("ABCDa=1", 3);
        fault("ABCa", 4);
        fault("ABCa=", MovedFolders.NONE);
        fault("a", 1);
        fault("a=", MovedFolders.NONE);
        fault("h=", MovedFolders.NONE);
        fault("i=", 0);
        fault("`=", 0);
        fault("Da=", MovedFolders.NONE);
        fault("Ea=", 0);
        fault("@a=", 0);
        fault("AEa=", 1);
        fault("=", 0);
        fault("A=", 1);
        fault("aa", 1);
        fault("aA=", 1);
        fault("a1", 1);
        fault("a==", 2);
        fault("a=0", MovedFolders.NONE);
        fault("a=9", MovedFolders.NONE);
        fault("a=/", 2);
        fault("a=:", 2);
        fault("a=a", 2);
        fault("a=12A4", 4);
        fault("a=123456", MovedFolders.NONE);
        fault("a=1234567", 8);
        fault("a=123456789!!", 8);
        fault("DDDh=999999", MovedFolders.NONE);
        fault("DDDh=9999999", 11);
        fault("~!", 0);
        fault("1a=", 0);
    }

    private static void laid(String text, int path, int content) {
        MovedFolders x = new MovedFolders();
        CHECK.due("put(2) of " + text, Check.lay(x, 2, text), 1);
        CHECK.due("file(2, 0, 0) of " + text, x.file(2, 0, 0), path);
        CHECK.due("file(2, 0, 1) of " + text, x.file(2, 0, 1), content);
        CHECK.due("told(0) behind " + text, x.told(0), 0);
    }

    private static void putLaysTheFileOfThePad() {
        laid("a=", 0, 1);
        laid("h=05", 7, 105);
        laid("Aa=0", 1000, 10);
        laid("ABc=", 1202, 1);
        laid("DDDh=999999", 4447, 1999999);
        laid("ABCd=000000", 1233, 1000000);
        MovedFolders x = Check.trees("Bb=2 Aa=1 b=0 BAa=4", "", "");
        CHECK.same("files, rising", Check.files(x, 0), "1:10 1000:11 2001:12 2100:14");
        CHECK.due("put(0) in place of one", Check.lay(x, 0, "Aa=77"), 4);
        CHECK.same("one in place of another", Check.files(x, 0), "1:10 1000:177 2001:12 2100:14");
        CHECK.same("the sides", Check.files(x, 1) + Check.files(x, 2), "");
    }

    private static void putRefuses() {
        MovedFolders x = Check.trees(TWELVE, TWELVE, "");
        CHECK.due("told(10)", x.told(10), 12);
        CHECK.due("put(3) without a file", x.put(3), MovedFolders.UNKNOWN);
        CHECK.due("put(0) without a file", x.put(0), MovedFolders.NO);
        Check.tell(x, "Ba=1");
        String before = Check.state(x);
        for (int tree : new int[] {-1, 3, Integer.MIN_VALUE, Integer.MAX_VALUE}) {
            CHECK.due("put(" + tree + ")", x.put(tree), MovedFolders.UNKNOWN);
        }
        CHECK.due("put(0), 13", x.put(0), MovedFolders.FULL);
        CHECK.due("put(1), 13", x.put(1), MovedFolders.FULL);
        CHECK.same("after refusals", Check.state(x), before);
        CHECK.due("put(2)", x.put(2), 1);
        CHECK.due("put(0) in place of the last", Check.lay(x, 0, "Ad=5"), 12);
        CHECK.due("file(0, 11, 1)", x.file(0, 11, 1), 15);
        CHECK.due("put(0) in place of the first", Check.lay(x, 0, "a=6"), 12);
        CHECK.due("file(0, 0, 1)", x.file(0, 0, 1), 16);
        CHECK.due("drop(0, 3)", x.drop(0, 3), 11);
        CHECK.due("put(0), 12 again", Check.lay(x, 0, "DDDh=1"), 12);
    }

    private static void dropTakesOne() {
        MovedFolders x = Check.trees("a=1 b=2 c=3", "a=1", "");
        String before = Check.state(x);
        int[][] wrong = {{3, 0}, {-1, 0}, {0, 3}, {0, -1}, {1, 1}, {2, 0}, {0, Integer.MAX_VALUE},
            {0, Integer.MIN_VALUE}, {Integer.MIN_VALUE, 0}};
        for (int[] w : wrong) {
            CHECK.due("drop(" + w[0] + ", " + w[1] + ")", x.drop(w[0], w[1]), MovedFolders.UNKNOWN);
        }
        CHECK.same("after refusals", Check.state(x), before);
        CHECK.due("drop(0, 1)", x.drop(0, 1), 2);
        CHECK.same("base", Check.files(x, 0), "0:11 2:13");
        CHECK.due("drop(0, 1)", x.drop(0, 1), 1);
        CHECK.due("drop(0, 0)", x.drop(0, 0), 0);
        CHECK.due("drop(0, 0)", x.drop(0, 0), MovedFolders.UNKNOWN);
        CHECK.same("side 1", Check.files(x, 1), "0:11");
    }

    private static void fileTellsPathAndContent() {
        MovedFolders x = Check.trees("a=1", "Bb=23", "");
        CHECK.due("file(1, 0, 0)", x.file(1, 0, 0), 2001);
        CHECK.due("file(1, 0, 1)", x.file(1, 0, 1), 123);
        for (int what : new int[] {-1, 2, Integer.MAX_VALUE, Integer.MIN_VALUE}) {
            CHECK.due("file(1, 0, " + what + ")", x.file(1, 0, what), MovedFolders.OUTSIDE);
            CHECK.due("file(1, 1, " + what + ")", x.file(1, 1, what), MovedFolders.UNKNOWN);
            CHECK.due("file(3, 0, " + what + ")", x.file(3, 0, what), MovedFolders.UNKNOWN);
        }
        CHECK.due("file(-1, 0, 0)", x.file(-1, 0, 0), MovedFolders.UNKNOWN);
        CHECK.due("file(0, -1, 0)", x.file(0, -1, 0), MovedFolders.UNKNOWN);
        CHECK.due("file(2, 0, 0)", x.file(2, 0, 0), MovedFolders.UNKNOWN);
    }

    private static void copyTakesJustTheFilesOfBase() {
        MovedFolders x = Check.trees("a=1 Bb=2", "c=3 d=4 e=5", "Bb=7");
        String before = Check.state(x);
        for (int side : new int[] {0, 3, -1, Integer.MIN_VALUE, Integer.MAX_VALUE}) {
            CHECK.due("copy(" + side + ")", x.copy(side), MovedFolders.UNKNOWN);
        }
        CHECK.same("after refusals", Check.state(x), before);
        CHECK.due("copy(1)", x.copy(1), 2);
        CHECK.same("side 1", Check.files(x, 1), "0:11 2001:12");
        CHECK.same("side 2", Check.files(x, 2), "2001:17");
        CHECK.due("put(0)", Check.lay(x, 0, "a=9"), 2);
        CHECK.same("side 1 is another tree", Check.files(x, 1), "0:11 2001:12");
        CHECK.due("copy(2)", x.copy(2), 2);
        CHECK.same("side 2", Check.files(x, 2), "0:19 2001:12");
        CHECK.due("copy(1) of none", new MovedFolders().copy(1), 0);
    }
}
