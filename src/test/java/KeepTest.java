/** Promises 19 to 22: sides exchanged, images, and what is told. */
public final class KeepTest {
    private static final Check CHECK = new Check("KeepTest");

    public static void main(String[] args) {
        exchangeExchanges();
        imagesKeepAllButThePad();
        imagesAreTwo();
        imagesAreCopies();
        imagesRefuse();
        toldTells();
        toldRefuses();
        CHECK.end();
    }

    private static void exchangeExchanges() {
        MovedFolders x = Check.trees("Aa=1 Ab=2", "Ba=1 Bb=2", "Aa=1 Ac=7");
        x.limit(60);
        Check.tell(x, "A");
        CHECK.due("moved(1, 100, 0)", x.moved(1, 100, 0), 200);
        CHECK.due("exchange()", x.exchange(), 1);
        CHECK.same("exchanged", Check.state(x), "1,1,60 | 1000:11 1001:12 | 1000:11 1002:17 | 2000:11 2001:12");
        CHECK.due("moved(1, 100, 0)", x.moved(1, 100, 0), MovedFolders.NONE);
        CHECK.due("moved(2, 100, 0)", x.moved(2, 100, 0), 200);
        CHECK.same("entries", Check.entries(x), "2000:11:0:0 2001:12:2:1 2002:17:0:101");
        CHECK.due("exchange()", x.exchange(), 1);
        CHECK.same("exchanged twice", Check.state(x), "1,1,60 | 1000:11 1001:12 | 2000:11 2001:12 | 1000:11 1002:17");
        CHECK.due("exchange() of none", new MovedFolders().exchange(), 1);
    }

    private static void imagesKeepAllButThePad() {
        MovedFolders x = Check.trees("a=1 b=2", "a=1", "Ba=2");
        x.limit(33);
        Check.tell(x, "Aa=");
        CHECK.due("image(0)", x.image(0), 1);
        CHECK.same("an image changes nothing", Check.state(x), "3,-6,33 | 0:11 1:12 | 0:11 | 2000:12");
        CHECK.due("put(0)", x.put(0), 3);
        x.limit(44);
        x.drop(1, 0);
        x.copy(2);
        Check.tell(x, "BB");
        CHECK.due("restore(0)", x.restore(0), 1);
        CHECK.same("restored", Check.state(x), "2,2,33 | 0:11 1:12 | 0:11 | 2000:12");
        CHECK.due("pair(2, 1, 0)", x.pair(2, 1, 0), 0);
        x.drop(0, 0);
        CHECK.due("restore(0) once more", x.restore(0), 1);
        CHECK.same("restored once more", Check.state(x), "2,2,33 | 0:11 1:12 | 0:11 | 2000:12");
        x.exchange();
        CHECK.due("restore(0) behind exchange()", x.restore(0), 1);
        CHECK.same("restored behind exchange()", Check.state(x), "2,2,33 | 0:11 1:12 | 0:11 | 2000:12");
    }

    private static void imagesAreTwo() {
        MovedFolders x = Check.trees("a=1", "", "");
        x.image(0);
        Check.lay(x, 0, "b=2");
        x.image(1);
        Check.lay(x, 0, "c=3");
        CHECK.due("restore(0)", x.restore(0), 1);
        CHECK.same("image 0", Check.files(x, 0), "0:11");
        CHECK.due("restore(1)", x.restore(1), 1);
        CHECK.same("image 1", Check.files(x, 0), "0:11 1:12");
        Check.lay(x, 0, "d=4");
        CHECK.due("image(0), anew", x.image(0), 1);
        CHECK.due("restore(1)", x.restore(1), 1);
        CHECK.same("image 1 is as it was", Check.files(x, 0), "0:11 1:12");
        CHECK.due("restore(0)", x.restore(0), 1);
        CHECK.same("image 0, anew", Check.files(x, 0), "0:11 1:12 3:14");
    }

    private static void imagesAreCopies() {
        MovedFolders x = Check.trees("a=1", "b=2", "c=3");
        x.image(1);
        x.restore(1);
        Check.lay(x, 0, "a=5");
        Check.lay(x, 1, "b=5");
        Check.lay(x, 2, "c=5");
        x.restore(1);
        CHECK.same("copies", Check.state(x), "0,0,50 | 0:11 | 1:12 | 2:13");
    }

    private static void imagesRefuse() {
        MovedFolders x = Check.trees("a=1", "", "");
        String before = Check.state(x);
        for (int k : new int[] {-1, 2, Integer.MIN_VALUE, Integer.MAX_VALUE}) {
            CHECK.due("image(" + k + ")", x.image(k), MovedFolders.OUTSIDE);
            CHECK.due("restore(" + k + ")", x.restore(k), MovedFolders.OUTSIDE);
        }
        CHECK.due("restore(0)", x.restore(0), MovedFolders.STATE);
        CHECK.due("restore(1)", x.restore(1), MovedFolders.STATE);
        CHECK.due("image(1)", x.image(1), 1);
        CHECK.due("restore(0)", x.restore(0), MovedFolders.STATE);
        CHECK.same("after refusals", Check.state(x), before);
        CHECK.due("image(0) of a new object", new MovedFolders().image(0), 1);
    }

    private static void toldTells() {
        MovedFolders x = Check.trees("Aa=1 Ab=2 Cc=3 d=4", "Ba=1 Cc=3 Cd=77 Ce=88", "Aa=1 Db=2 Dc=3 Dd=4");
        Check.tell(x, "ABC");
        x.limit(99);
        int[][] want = {{0, 3}, {1, 99}, {10, 4}, {11, 4}, {12, 4}, {21, 2}, {22, 0}, {31, 2}, {32, 0},
            {41, 1}, {42, 2}};
        for (int[] w : want) {
            CHECK.due("told(" + w[0] + ")", x.told(w[0]), w[1]);
        }
        x.wipe();
        Check.lay(x, 2, "Bh=5");
        CHECK.due("told(31)", x.told(31), 2);
        CHECK.due("told(32)", x.told(32), 1);
        x.drop(2, 1);
        x.exchange();
        CHECK.due("told(21)", x.told(21), 0);
        CHECK.due("told(22)", x.told(22), 2);
        CHECK.due("told(31)", x.told(31), 0);
        CHECK.due("told(32)", x.told(32), 2);
        CHECK.due("told(41)", x.told(41), 2);
        CHECK.due("told(42)", x.told(42), 1);
        x.drop(0, 0);
        CHECK.due("told(10)", x.told(10), 3);
        x.drop(2, 0);
        CHECK.due("told(12)", x.told(12), 3);
        CHECK.due("told(11)", x.told(11), 4);
    }

    private static void toldRefuses() {
        MovedFolders x = Check.trees("a=1", "a=1", "a=1");
        int[] fine = {0, 1, 10, 11, 12, 21, 22, 31, 32, 41, 42};
        for (int what = -60; what <= 260; what++) {
            boolean known = false;
            for (int f : fine) {
                known |= f == what;
            }
            if (!known) {
                CHECK.due("told(" + what + ")", x.told(what), MovedFolders.OUTSIDE);
            }
        }
        CHECK.due("told(least)", x.told(Integer.MIN_VALUE), MovedFolders.OUTSIDE);
        CHECK.due("told(most)", x.told(Integer.MAX_VALUE), MovedFolders.OUTSIDE);
    }
}
