/** Promises 9 to 12: the limit, how alike two files are, and which is which. */
public final class PairsTest {
    private static final Check CHECK = new Check("PairsTest");

    public static void main(String[] args) {
        limitTellsTheFormerOne();
        alikeCountsPieces();
        alikeRefuses();
        stayedComeFirst();
        sameComeBeforeLike();
        sameNamesComeFirst();
        theMostAlikeComeFirst();
        theLimitCounts();
        noneIsNeverPairedByContent();
        allTwelveArePaired();
        pairsAreThoseOfNow();
        pairRefuses();
        originRefuses();
        CHECK.end();
    }

    private static void limitTellsTheFormerOne() {
        MovedFolders x = new MovedFolders();
        for (int percent : new int[] {0, 101, -1, Integer.MIN_VALUE, Integer.MAX_VALUE}) {
            CHECK.due("limit(" + percent + ")", x.limit(percent), MovedFolders.OUTSIDE);
        }
        CHECK.due("limit(1)", x.limit(1), 50);
        CHECK.due("limit(100)", x.limit(100), 1);
        CHECK.due("told(1)", x.told(1), 100);
        CHECK.due("limit(0)", x.limit(0), MovedFolders.OUTSIDE);
        CHECK.due("limit(50)", x.limit(50), 100);
    }

    private static void alike(String one, String other, int want) {
        MovedFolders x = Check.trees("a=" + one, "b=" + other, "");
        CHECK.due("alike of " + one + " and " + other, x.alike(0, 0, 1, 0), want);
        CHECK.due("alike of " + other + " and " + one, x.alike(1, 0, 0, 0), want);
    }

    private static void alikeCountsPieces() {
        alike("", "", 100);
        alike("", "1", 0);
        alike("0", "0", 100);
        alike("0", "1", 0);
        alike("12", "21", 100);
        alike("123", "124", 66);
        alike("123", "145", 33);
        alike("112", "122", 66);
        alike("111", "1", 33);
        alike("111111", "111111", 100);
        alike("111111", "1", 16);
        alike("012345", "543210", 100);
        alike("999999", "999990", 83);
        alike("00", "0", 50);
        alike("1234567".substring(0, 6), "89", 0);
        alike("1122", "2211", 100);
        alike("1122", "1112", 75);
    }

    private static void alikeRefuses() {
        MovedFolders x = Check.trees("a=1", "b=1", "");
        int[][] wrong = {{3, 0, 0, 0}, {-1, 0, 0, 0}, {0, 0, 3, 0}, {0, 0, -1, 0}, {0, 1, 1, 0}, {0, -1, 1, 0},
            {0, 0, 1, 1}, {0, 0, 1, -1}, {0, 0, 2, 0}, {2, 0, 0, 0}, {0, Integer.MAX_VALUE, 0, 0},
            {0, 0, Integer.MIN_VALUE, 0}};
        for (int[] w : wrong) {
            CHECK.due("alike of wrong ones", x.alike(w[0], w[1], w[2], w[3]), MovedFolders.UNKNOWN);
        }
        CHECK.due("alike of one and itself", x.alike(0, 0, 0, 0), 100);
    }

    private static void pairs(String what, String base, String one, int limit, String want) {
        MovedFolders x = Check.trees(base, one, one);
        x.limit(limit);
        CHECK.same(what + ", side 1", Check.pairs(x, 1), want);
        CHECK.same(what + ", side 2", Check.pairs(x, 2), want);
    }

    private static void stayedComeFirst() {
        pairs("same path, another content", "a=12 b=34", "a=34 b=99", 50, "0/0 1/0 | 0 1");
        pairs("same path, none", "a=", "a=", 50, "0/0 | 0");
        pairs("one that stayed is no more free", "a=12 b=34", "a=34", 50, "0/0 -6/-6 | 0");
        pairs("same path, the same content elsewhere", "a=12", "Aa=12 a=77", 50, "0/0 | 0 -6");
    }

    private static void sameComeBeforeLike() {
        pairs("order of pieces counts", "a=12 b=21", "Ca=21 Cd=12", 50, "1/1 0/1 | 1 0");
        pairs("wholly alike but no SAME", "a=12", "Cb=21", 100, "0/2 | 0");
        pairs("SAME takes what is LIKE of a lesser one", "a=123 b=124", "Cc=124", 50, "-6/-6 0/1 | 1");
        pairs("SAME beats the same name LIKE", "a=12", "Ca=21 Cb=12", 50, "1/1 | -6 0");
    }

    private static void sameNamesComeFirst() {
        pairs("the same name first", "a=7 b=7", "Ab=7", 50, "-6/-6 0/1 | 1");
        pairs("the least of base", "a=7 b=7", "Ac=7", 50, "0/1 -6/-6 | 0");
        pairs("the least of the side", "a=7", "Ac=7 Ad=7", 50, "0/1 | 0 -6");
        pairs("the same name of the side", "d=7", "Ac=7 Ad=7", 50, "1/1 | -6 0");
        pairs("same names, least ones", "Ba=7 Ca=7", "Da=7 DAa=7", 50, "0/1 1/1 | 0 1");
        pairs("a same name takes the least one's", "a=7 b=7 c=7", "Ab=7 Ad=7 Ae=7", 50, "1/1 0/1 2/1 | 1 0 2");
    }

    private static void theMostAlikeComeFirst() {
        pairs("the greatest first", "a=1234", "Aa=1200 Ab=1235", 50, "1/2 | -6 0");
        pairs("the greatest of base", "a=1200 b=1235", "Ac=1234", 50, "-6/-6 0/2 | 1");
        pairs("then the same name", "a=1235 b=1236", "Ab=1234", 50, "-6/-6 0/2 | 1");
        pairs("then the least of base", "a=1235 b=1236", "Ac=1234", 50, "0/2 -6/-6 | 0");
        pairs("then the least of the side", "a=1235", "Ac=1234 Ad=1236", 50, "0/2 | 0 -6");
        pairs("cut ones are equal", "a=123", "Ab=124 Aa=125", 50, "0/2 | 0 -6");
        pairs("one by another", "a=1234 b=1235", "Ac=1236 Ad=1200", 50, "0/2 1/2 | 0 1");
    }

    private static void theLimitCounts() {
        pairs("just the limit", "a=123", "Ab=124", 66, "0/2 | 0");
        pairs("below the limit", "a=123", "Ab=124", 67, "-6/-6 | -6");
        pairs("SAME needs no limit", "a=123", "Ab=123", 100, "0/1 | 0");
        pairs("nothing shared", "a=123", "Ab=456", 1, "-6/-6 | -6");
        pairs("half", "a=12", "Ab=13", 50, "0/2 | 0");
        pairs("less than half", "a=12", "Ab=13", 51, "-6/-6 | -6");
        pairs("a sixth", "a=123456", "Ab=1", 16, "0/2 | 0");
        pairs("no sixth", "a=123456", "Ab=1", 17, "-6/-6 | -6");
        MovedFolders x = Check.trees("a=12", "Ab=13", "");
        CHECK.due("pair(1, 0, 1)", x.pair(1, 0, 1), 2);
        x.limit(51);
        CHECK.due("pair(1, 0, 1) by another limit", x.pair(1, 0, 1), MovedFolders.NONE);
    }

    private static void noneIsNeverPairedByContent() {
        pairs("none and none", "a=", "Aa=", 1, "-6/-6 | -6");
        pairs("none and some", "a=", "Aa=1", 1, "-6/-6 | -6");
        pairs("some and none", "a=1", "Aa=", 1, "-6/-6 | -6");
    }

    private static void allTwelveArePaired() {
        pairs("twelve SAME", "a=0 b=1 c=2 d=3 e=4 f=5 g=6 h=7 Aa=8 Ab=9 Ac=10 Ad=11",
            "Ba=0 Bb=1 Bc=2 Bd=3 Be=4 Bf=5 Bg=6 Bh=7 Ca=8 Cb=9 Cc=10 Cd=11", 50,
            "0/1 1/1 2/1 3/1 4/1 5/1 6/1 7/1 8/1 9/1 10/1 11/1 | 0 1 2 3 4 5 6 7 8 9 10 11");
        pairs("twelve LIKE", "a=1 b=1 c=1 d=1 e=1 f=1 g=1 h=1 Aa=1 Ab=1 Ac=1 Ad=1",
            "Ba=12 Bb=12 Bc=12 Bd=12 Be=12 Bf=12 Bg=12 Bh=12 Ca=12 Cb=12 Cc=12 Cd=12", 50,
            "0/2 1/2 2/2 3/2 4/2 5/2 6/2 7/2 8/2 9/2 10/2 11/2 | 0 1 2 3 4 5 6 7 8 9 10 11");
    }

    /** Asked before and behind each call that changes trees. */
    private static void pairsAreThoseOfNow() {
        MovedFolders x = Check.trees("a=1", "", "");
        CHECK.due("gone", x.pair(1, 0, 0), MovedFolders.NONE);
        Check.lay(x, 1, "Ba=1");
        CHECK.due("behind put", x.pair(1, 0, 1), 1);
        x.image(0);
        x.drop(1, 0);
        CHECK.due("behind drop", x.pair(1, 0, 1), MovedFolders.NONE);
        x.restore(0);
        CHECK.due("behind restore", x.pair(1, 0, 1), 1);
        x.copy(1);
        CHECK.due("behind copy", x.pair(1, 0, 1), 0);
        x.exchange();
        CHECK.due("behind exchange", x.pair(1, 0, 1), MovedFolders.NONE);
        Check.lay(x, 1, "a=1");
        Check.lay(x, 1, "b=2");
        CHECK.due("new", x.origin(1, 1), MovedFolders.NONE);
        CHECK.due("settle()", x.settle(), 2);
        CHECK.due("behind settle", x.origin(1, 1), 1);
        Check.lay(x, 1, "Cb=12");
        x.drop(1, 1);
        CHECK.due("half", x.pair(1, 1, 1), 2);
        x.limit(51);
        CHECK.due("behind limit", x.pair(1, 1, 1), MovedFolders.NONE);
    }

    private static void pairRefuses() {
        MovedFolders x = Check.trees("a=1", "b=1", "");
        int[][] wrong = {{0, 0, 0}, {3, 0, 0}, {-1, 0, 0}, {1, 1, 0}, {1, -1, 0}, {0, 0, 2}, {1, 1, 2},
            {1, Integer.MAX_VALUE, 0}, {Integer.MIN_VALUE, 0, 0}};
        for (int[] w : wrong) {
            CHECK.due("pair of wrong ones", x.pair(w[0], w[1], w[2]), MovedFolders.UNKNOWN);
        }
        for (int what : new int[] {-1, 2, Integer.MAX_VALUE, Integer.MIN_VALUE}) {
            CHECK.due("pair(1, 0, " + what + ")", x.pair(1, 0, what), MovedFolders.OUTSIDE);
            CHECK.due("pair(2, 0, " + what + ")", x.pair(2, 0, what), MovedFolders.OUTSIDE);
        }
        CHECK.due("pair(1, 0, 0)", x.pair(1, 0, 0), 0);
        CHECK.due("pair(2, 0, 0)", x.pair(2, 0, 0), MovedFolders.NONE);
        CHECK.due("pair(2, 0, 1)", x.pair(2, 0, 1), MovedFolders.NONE);
    }

    private static void originRefuses() {
        MovedFolders x = Check.trees("a=1 b=2", "b=1", "c=9");
        int[][] wrong = {{0, 0}, {3, 0}, {-1, 0}, {1, 1}, {1, -1}, {2, 1}, {2, Integer.MIN_VALUE}};
        for (int[] w : wrong) {
            CHECK.due("origin of wrong ones", x.origin(w[0], w[1]), MovedFolders.UNKNOWN);
        }
        CHECK.due("origin(1, 0)", x.origin(1, 0), 1);
        CHECK.due("origin(2, 0)", x.origin(2, 0), MovedFolders.NONE);
    }
}
