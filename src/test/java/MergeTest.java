/** Promises 16 to 18: the entries, the clashes, and that all three trees become the merge. */
public final class MergeTest {
    private static final Check CHECK = new Check("MergeTest");

    public static void main(String[] args) {
        entryTells();
        entryRefuses();
        whatIsGone();
        whatIsGoneAndChanged();
        foldersOfBoth();
        namesOfBoth();
        contentsOfBoth();
        newOnesGoAlong();
        newOnesOfBothSides();
        manyAtOnePath();
        orderOfEntries();
        clashTells();
        settleWrites();
        settleRefuses();
        CHECK.end();
    }

    /** The merge with the sides exchanged must differ in nothing but the numbers of new ones. */
    private static void merge(String what, String base, String one, String two, String want) {
        MovedFolders x = Check.trees(base, one, two);
        CHECK.same(what, Check.entries(x), want);
        MovedFolders y = Check.trees(base, two, one);
        CHECK.same(what + ", exchanged", Check.clashes(y), Check.clashes(x));
        CHECK.due(what + ", exchanged", y.entry(-1, 0), x.entry(-1, 0));
        for (int i = 0; i < x.entry(-1, 0); i++) {
            for (int part = 0; part < 3; part++) {
                CHECK.due(what + ", exchanged", y.entry(i, part), x.entry(i, part));
            }
        }
    }

    private static void entryTells() {
        MovedFolders x = Check.trees("Aa=12", "Aa=13", "Aa=12 Bb=7");
        CHECK.due("entry(-1, 0)", x.entry(-1, 0), 2);
        CHECK.due("entry(0, 0)", x.entry(0, 0), 1000);
        CHECK.due("entry(0, 1)", x.entry(0, 1), 113);
        CHECK.due("entry(0, 2)", x.entry(0, 2), 0);
        CHECK.due("entry(0, 3)", x.entry(0, 3), 0);
        CHECK.due("entry(1, 0)", x.entry(1, 0), 2001);
        CHECK.due("entry(1, 1)", x.entry(1, 1), 17);
        CHECK.due("entry(1, 3)", x.entry(1, 3), 201);
    }

    private static void entryRefuses() {
        MovedFolders x = Check.trees("Aa=12", "Aa=13", "Aa=12");
        for (int i : new int[] {1, -2, 36, Integer.MAX_VALUE, Integer.MIN_VALUE}) {
            for (int what = 0; what <= 3; what++) {
                CHECK.due("entry(" + i + ", " + what + ")", x.entry(i, what), MovedFolders.NONE);
            }
            CHECK.due("entry(" + i + ", 4)", x.entry(i, 4), MovedFolders.OUTSIDE);
        }
        for (int what : new int[] {-1, 4, Integer.MAX_VALUE, Integer.MIN_VALUE}) {
            CHECK.due("entry(0, " + what + ")", x.entry(0, what), MovedFolders.OUTSIDE);
        }
        for (int what : new int[] {-1, 1, 2, 3, 4}) {
            CHECK.due("entry(-1, " + what + ")", x.entry(-1, what), MovedFolders.OUTSIDE);
        }
    }

    private static void whatIsGone() {
        merge("gone on both", "Aa=1 b=2", "b=2", "b=2", "1:12:0:0");
        merge("gone on one, as it was on the other", "Aa=1 b=2", "b=2", "Aa=1 b=2", "1:12:0:0");
        merge("none and as it was", "Aa=", "", "Aa=", "");
        merge("gone on both, and new ones", "Aa=1", "Ba=2", "Ca=3", "2000:12:0:100 3000:13:0:200");
    }

    private static void whatIsGoneAndChanged() {
        merge("gone and changed", "Aa=1", "", "Aa=2", "1000:12:2:0");
        merge("gone and emptied", "Aa=1", "", "Aa=", "1000:1:2:0");
        merge("gone and renamed", "Aa=1", "", "Ab=1", "1001:11:2:0");
        merge("gone and moved", "Aa=1", "", "Ba=1", "2000:11:2:0");
        merge("gone, moved, renamed and changed", "Aa=12", "", "Bb=13", "2001:113:2:0");
        merge("gone, and moved to where all moved on", "Aa=1 Bb=2", "Cb=2", "Ba=1 Bb=2",
            "3000:11:2:0 3001:12:0:1");
        merge("gone and changed in a folder that moved: both have that folder", "Aa=1 Ab=2", "Bb=2", "Aa=3 Ab=2",
            "1000:13:2:0 2001:12:0:1");
    }

    private static void foldersOfBoth() {
        merge("neither moved it", "Aa=1", "Aa=1", "Aa=1", "1000:11:0:0");
        merge("one moved it", "Aa=1", "Ba=1", "Aa=1", "2000:11:0:0");
        merge("both moved it there", "Aa=1", "Ba=1", "Ba=1", "2000:11:0:0");
        merge("both moved it elsewhere", "Aa=1", "Ca=1", "Ba=1", "2000:11:1:0");
        merge("elsewhere, one to the row of none", "Aa=1", "Ca=1", "a=1", "0:11:1:0");
        merge("moved here and changed there", "Aa=12", "Ba=12", "Aa=13", "2000:113:0:0");
        merge("moved into what the other moved", "Aa=1 Bb=2", "Ba=1 Bb=2", "Aa=1 Cb=2",
            "3000:11:0:0 3001:12:0:1");
        merge("moved into what lies in what the other moved", "Aa=1 Bb=2", "BDa=1 Bb=2", "Aa=1 Cb=2",
            "3001:12:0:1 3400:11:0:0");
        merge("both there: it is not led on", "Aa=1 Bb=2", "Ba=1 Bb=2", "Ba=1 Cb=2",
            "2000:11:0:0 3001:12:0:1");
        merge("round and round", "Aa=1 Bb=2", "Ba=1 Bb=2", "Aa=1 Ab=2", "1001:12:0:1 2000:11:0:0");
    }

    private static void namesOfBoth() {
        merge("one renamed it", "Aa=1", "Ab=1", "Aa=1", "1001:11:0:0");
        merge("both renamed it so", "Aa=1", "Ab=1", "Ab=1", "1001:11:0:0");
        merge("both renamed it otherwise", "Aa=1", "Ac=1", "Ab=1", "1001:11:1:0");
        merge("one renamed, one moved it", "Aa=1", "Ac=1", "Ba=1", "2002:11:0:0");
        merge("both renamed and moved it", "Aa=1", "Bc=1", "Cb=1", "2001:11:1:0");
        merge("both moved it there, with other names", "Ah=1", "Bc=1", "Bd=1", "2002:11:1:0");
        merge("renamed and moved and changed by both", "Aa=123", "Bb=124", "Cc=135", "2001:1134:5:0");
    }

    private static void contents(String base, String one, String two, int want, int causes) {
        merge("contents " + base + ", " + one + ", " + two, "Aa=" + base, "Aa=" + one, "Aa=" + two,
            "1000:" + want + ":" + causes + ":0");
    }

    private static void contentsOfBoth() {
        contents("12", "12", "12", 112, 0);
        contents("12", "13", "12", 113, 0);
        contents("12", "345", "345", 1345, 0);
        contents("12", "", "12", 1, 0);
        contents("12", "32", "14", 134, 0);
        contents("12", "13", "14", 113, 4);
        contents("12", "93", "14", 193, 4);
        contents("12", "14", "93", 193, 4);
        contents("123456", "923456", "123450", 1923450, 0);
        contents("123456", "023456", "923456", 1023456, 4);
        contents("123456", "111111", "222222", 1211111, 4);
        contents("000000", "100000", "000002", 1100002, 0);
        contents("12", "123", "13", 113, 4);
        contents("12", "9", "10", 19, 4);
        contents("12", "9", "8", 18, 4);
        contents("1", "99", "88", 188, 4);
        contents("12", "", "3", 1, 4);
        contents("", "1", "2", 11, 4);
        contents("", "1", "1", 11, 0);
        merge("places and contents", "Aa=12", "Ba=13", "Ca=14", "2000:113:5:0");
    }

    private static void newOnesGoAlong() {
        merge("into what the other moved", "Aa=1", "Aa=1 Ab=2", "Ba=1", "2000:11:0:0 2001:12:0:101");
        merge("below what the other moved", "Aa=1", "Aa=1 ACb=2", "Ba=1", "2000:11:0:0 2301:12:0:101");
        merge("too deep", "Aa=1", "Aa=1 ACCb=2", "BBa=1", "1331:12:0:101 2200:11:0:0");
        merge("its own move does not lead it", "Aa=1", "Ba=1 AAb=2", "Aa=1", "1101:12:0:100 2000:11:0:0");
        merge("into a loop", "Aa=1 Bb=2", "Ba=1 Bb=2 Bc=3", "Aa=1 Ab=2", "1001:12:0:1 2000:11:0:0 2002:13:0:102");
        merge("both sides' new ones", "Aa=1 Bb=2", "Aa=1 Ac=5 Db=2", "Ca=1 Bb=2 Bd=6",
            "3000:11:0:0 3002:15:0:101 4001:12:0:1 4003:16:0:201");
    }

    private static void newOnesOfBothSides() {
        merge("the same one of both", "", "Aa=1", "Aa=1", "1000:11:0:100");
        merge("none of both", "", "Aa=", "Aa=", "1000:1:0:100");
        merge("other contents", "", "Aa=1", "Aa=2", "1000:11:8:100 1000:12:8:200");
        merge("the same one by a move", "Aa=1", "Aa=1 Ab=2", "Ba=1 Bb=2", "2000:11:0:0 2001:12:0:101");
        CHECK.same("the first of side 2 is taken", Check.entries(
            Check.trees("Aa=1 Cc=9", "Ba=1 Bb=2 Cc=9", "Aa=1 Ab=2 Bb=2 Cc=9")),
            "2000:11:0:0 2001:12:8:101 2001:12:8:202 3002:19:0:1");
        CHECK.same("each takes one", Check.entries(
            Check.trees("Aa=1 Cc=9", "Ba=1 Bb=2 Cc=9 Db=2", "Aa=1 Ab=2 Bb=2 Bc=9")),
            "2000:11:0:0 2001:12:8:101 2001:12:8:202 2002:19:0:1 4001:12:0:103");
        CHECK.same("two of one side are two", Check.entries(
            Check.trees("Aa=1", "Ba=1", "Aa=1 Ab=2 Bb=2")),
            "2000:11:0:0 2001:12:8:201 2001:12:8:202");
        CHECK.same("one new one of side 1 for two of side 2, and the other way", Check.entries(
            Check.trees("Aa=1 Bc=3", "Aa=1 Ab=2 Cb=2 Cc=3", "Ca=1 Bc=3 Bb=2 Cb=2")),
            "3000:11:0:0 3001:12:8:101 3001:12:8:102 3002:13:0:1");
    }

    private static void manyAtOnePath() {
        merge("an old one and a new one", "Aa=1", "Ba=1", "Aa=1 Ba=2", "2000:11:8:0 2000:12:8:201");
        merge("the same content is two all the same", "Aa=1", "Ba=1", "Aa=1 Ba=1", "2000:11:8:0 2000:11:8:201");
        merge("two old ones", "Aa=1 Ba=2", "Ca=1 Ba=2", "Aa=1 Ca=2", "3000:11:8:0 3000:12:8:1");
        merge("other paths have no part in it", "Aa=1 Ba=2", "Da=1 Ba=2", "Ca=1 Ba=2 Cb=7",
            "2000:12:0:1 3000:11:1:0 3001:17:0:202");
        merge("both causes and 8", "Aa=12 Ba=2", "Ca=13 Ba=2", "Da=14 Ca=2", "3000:12:8:1 3000:113:13:0");
    }

    private static void orderOfEntries() {
        merge("by paths, then contents", "Aa=5 Ba=3", "Ca=5 Ba=3", "Aa=5 Ca=3", "3000:13:8:1 3000:15:8:0");
        merge("then by causes", "Aa=56", "Ca=57", "Da=56 Ca=57", "3000:157:8:200 3000:157:9:0");
        merge("then by where they are from", "Aa=5 Ba=6", "Ca=5 Ba=6", "Aa=5 Ca=5 Ba=6", "2000:16:0:1 3000:15:8:0 3000:15:8:202");
    }

    private static void clashTells() {
        MovedFolders x = Check.trees("Aa=12 Ba=2 d=4", "Ca=13 Ba=2", "Da=14 Ca=2 d=5");
        CHECK.same("entries", Check.entries(x), "3:15:2:0 3000:12:8:2 3000:113:13:1");
        CHECK.same("clashes", Check.clashes(x), "3:2 3000:13");
        for (int i : new int[] {2, -2, Integer.MAX_VALUE, Integer.MIN_VALUE}) {
            CHECK.due("clash(" + i + ", 0)", x.clash(i, 0), MovedFolders.NONE);
            CHECK.due("clash(" + i + ", 1)", x.clash(i, 1), MovedFolders.NONE);
            CHECK.due("clash(" + i + ", 2)", x.clash(i, 2), MovedFolders.OUTSIDE);
            CHECK.due("clash(" + i + ", -1)", x.clash(i, -1), MovedFolders.OUTSIDE);
        }
        for (int what : new int[] {-1, 2, Integer.MAX_VALUE, Integer.MIN_VALUE}) {
            CHECK.due("clash(0, " + what + ")", x.clash(0, what), MovedFolders.OUTSIDE);
        }
        for (int what : new int[] {-1, 1, 2}) {
            CHECK.due("clash(-1, " + what + ")", x.clash(-1, what), MovedFolders.OUTSIDE);
        }
        CHECK.due("clash(-1, 0) of none", Check.trees("a=1", "a=1", "a=1").clash(-1, 0), 0);
    }

    private static void settleWrites() {
        MovedFolders x = Check.trees("Aa=12 b=3", "Ba=12 b=3", "Aa=13 Ac=4");
        x.limit(70);
        Check.tell(x, "Da");
        CHECK.due("settle()", x.settle(), 2);
        CHECK.same("all three", Check.state(x), "2,2,70 | 2000:113 2002:14 | 2000:113 2002:14 | 2000:113 2002:14");
        CHECK.due("settle() once more", x.settle(), 2);
        CHECK.due("put(1)", Check.lay(x, 1, "=5"), 3);
        CHECK.due("drop(1, 0)", x.drop(1, 0), 2);
        CHECK.due("told(12)", x.told(12), 2);
        CHECK.due("told(10)", x.told(10), 2);
        CHECK.due("settle() of none", Check.trees("a=1 b=2", "", "").settle(), 0);
    }

    private static void settleRefuses() {
        MovedFolders x = Check.trees("Aa=1", "Ba=1", "Ca=1");
        String before = Check.state(x);
        CHECK.due("settle() with a clash", x.settle(), MovedFolders.NO);
        CHECK.same("after a refusal", Check.state(x), before);
        String seven = "a=1 b=2 c=3 d=4 e=5 f=6 g=7";
        x = Check.trees("", seven, "Aa=1 Ab=2 Ac=3 Ad=4 Ae=5");
        CHECK.due("settle(), twelve", x.settle(), 12);
        x = Check.trees("", seven, "Aa=1 Ab=2 Ac=3 Ad=4 Ae=5 Af=6");
        before = Check.state(x);
        CHECK.due("settle(), thirteen", x.settle(), MovedFolders.FULL);
        CHECK.same("after a refusal", Check.state(x), before);
        x = Check.trees("", seven, "Aa=1 Ab=2 Ac=3 Ad=4 Ae=5 Af=6 a=2");
        CHECK.due("settle(), a clash and fourteen", x.settle(), MovedFolders.NO);
        x = Check.trees("Ca=0 Cb=0 Cc=0 Cd=0 Ce=0 Cf=0 Cg=0 Ch=0 Da=0 Db=0 Dc=0 Dd=0",
            "a=1 b=1 c=1 d=1 e=1 f=1 g=1 h=1 Aa=1 Ab=1 Ac=1 Ad=1",
            "Ba=2 Bb=2 Bc=2 Bd=2 Be=2 Bf=2 Bg=2 Bh=2 BAa=2 BAb=2 BAc=2 BAd=2");
        CHECK.due("entry(-1, 0), both all new", x.entry(-1, 0), 24);
        CHECK.due("settle(), both all new", x.settle(), MovedFolders.FULL);
    }
}
