/** Promises 13 to 15: votes, moves and where they lead. */
public final class FoldersTest {
    private static final Check CHECK = new Check("FoldersTest");

    public static void main(String[] args) {
        votesCountWhoWent();
        votesRefuse();
        movedNeedsTheMostVotes();
        movedNeedsAnEmptyFolder();
        movedOfTheRowOfNone();
        loopsGoOverBothSides();
        whatLeadsIntoALoopIsNone();
        movedRefuses();
        destPutsLettersBehind();
        destTakesTheFirstThatMoved();
        destPassesLoops();
        destRefuses();
        CHECK.end();
    }

    private static void votesCountWhoWent() {
        MovedFolders x = Check.trees("Aa=1 Ab=2 Ac=3 ABa=4 Ba=55", "Ba=1 Bb=2 Cc=3 BBa=4", "Aa=1 Ba=2 Ca=4");
        CHECK.due("Ba stayed, so Aa is gone", x.votes(1, 100, 200), 1);
        CHECK.due("votes(1, 100, 300)", x.votes(1, 100, 300), 1);
        CHECK.due("deeper ones do not count", x.votes(1, 120, 220), 1);
        CHECK.due("votes(1, 100, 220)", x.votes(1, 100, 220), 0);
        CHECK.due("votes(1, 200, 100)", x.votes(1, 200, 100), 0);
        CHECK.due("votes(2, 120, 300)", x.votes(2, 120, 300), 1);
        CHECK.due("votes(2, 100, 300)", x.votes(2, 100, 300), 0);
        CHECK.due("votes(2, 444, 0)", x.votes(2, 444, 0), 0);
    }

    private static void votesRefuse() {
        MovedFolders x = Check.trees("Aa=1", "Ba=1", "");
        for (int side : new int[] {0, 3, -1, Integer.MAX_VALUE}) {
            CHECK.due("votes of no side", x.votes(side, 100, 200), MovedFolders.UNKNOWN);
            CHECK.due("votes of no side, wrong folders", x.votes(side, 1, 1), MovedFolders.UNKNOWN);
        }
        int[] wrong = {-1, 1, 5, 10, 11, 44, 99, 101, 105, 115, 150, 151, 201, 335, 404, 440 + 5, 450, 500, 1000, -100,
            Integer.MAX_VALUE, Integer.MIN_VALUE};
        for (int folder : wrong) {
            CHECK.due("votes(1, " + folder + ", 100)", x.votes(1, folder, 100), MovedFolders.OUTSIDE);
            CHECK.due("votes(1, 100, " + folder + ")", x.votes(1, 100, folder), MovedFolders.OUTSIDE);
            CHECK.due("moved(1, " + folder + ", 0)", x.moved(1, folder, 0), MovedFolders.OUTSIDE);
            CHECK.due("dest(1, " + folder + ")", x.dest(1, folder), MovedFolders.OUTSIDE);
        }
        CHECK.due("votes(1, 100, 100)", x.votes(1, 100, 100), MovedFolders.OUTSIDE);
        CHECK.due("votes(1, 0, 0)", x.votes(1, 0, 0), MovedFolders.OUTSIDE);
        CHECK.due("votes(1, 100, 200)", x.votes(1, 100, 200), 1);
    }

    private static void moved(String what, MovedFolders x, int side, int folder, int want) {
        CHECK.due(what, x.moved(side, folder, 0), want);
        int loop = want == MovedFolders.NONE ? MovedFolders.NONE : 0;
        CHECK.due(what + ", loop", x.moved(side, folder, 1), loop);
    }

    private static void movedNeedsTheMostVotes() {
        MovedFolders x = Check.trees("Aa=1 Ab=2 Ac=3", "Ba=1 Cb=2 Bc=3", "Ba=1 Cb=2");
        moved("two to one", x, 1, 100, 200);
        moved("one to one", x, 2, 100, MovedFolders.NONE);
        CHECK.due("told(41)", x.told(41), 1);
        CHECK.due("told(42)", x.told(42), 0);
        x = Check.trees("Aa=1 Ab=2 Ac=3 Ad=4 Ae=5", "Ca=1 Bb=2 Cc=3 Bd=4 Ce=5", "Ba=1 Cb=2 Cc=3 Bd=4 De=5");
        moved("three to two", x, 1, 100, 300);
        moved("two, two and one", x, 2, 100, MovedFolders.NONE);
        x = Check.trees("Aa=1 Ab=2 Ac=3 Ad=4", "Ba=1 Cb=2 Dc=3 Dd=4", "");
        moved("one, one, and then two", x, 1, 100, 400);
        moved("all gone", x, 2, 100, MovedFolders.NONE);
        moved("one of many is enough", Check.trees("Aa=1 Ab=2 Ac=3", "Da=1", ""), 1, 100, 400);
    }

    private static void movedNeedsAnEmptyFolder() {
        MovedFolders x = Check.trees("Aa=1 Ab=2 Ac=3", "Ba=1 Bb=2 Ac=3", "Ba=1 Bb=2 Bc=3 Ad=77");
        moved("one stayed", x, 1, 100, MovedFolders.NONE);
        moved("a new one", x, 2, 100, MovedFolders.NONE);
        x = Check.trees("Aa=1 ABa=2", "AAa=1 ABa=2", "Ba=1 ABa=2");
        moved("deeper ones may stay", x, 1, 100, 110);
        moved("deeper ones may stay", x, 2, 100, 200);
        moved("the deeper one stayed", x, 1, 120, MovedFolders.NONE);
        moved("a folder that base has not", x, 1, 300, MovedFolders.NONE);
    }

    private static void movedOfTheRowOfNone() {
        MovedFolders x = Check.trees("a=1 Ba=2", "Aa=1 Ba=2", "a=1 a=1 b=2");
        moved("the row of none", x, 1, 0, 100);
        moved("into the row of none", x, 2, 200, 0);
        CHECK.due("dest(1, 0)", x.dest(1, 0), 100);
        CHECK.due("dest(1, 200)", x.dest(1, 200), 120);
        CHECK.due("dest(1, 234)", x.dest(1, 234), 234);
        CHECK.due("dest(2, 200)", x.dest(2, 200), 0);
        CHECK.due("dest(2, 234)", x.dest(2, 234), 340);
        CHECK.due("dest(2, 230)", x.dest(2, 230), 300);
        CHECK.due("dest(2, 100)", x.dest(2, 100), 100);
    }

    private static void loop(MovedFolders x, int side, int folder, int target, int want) {
        CHECK.due("moved(" + side + ", " + folder + ", 0)", x.moved(side, folder, 0), target);
        CHECK.due("moved(" + side + ", " + folder + ", 1)", x.moved(side, folder, 1), want);
    }

    private static void loopsGoOverBothSides() {
        MovedFolders x = Check.trees("Aa=1 Bb=2", "Ba=1 Bb=2", "Aa=1 Ab=2");
        loop(x, 1, 100, 200, 1);
        loop(x, 2, 200, 100, 1);
        CHECK.due("told(41)", x.told(41), 1);
        CHECK.due("told(42)", x.told(42), 1);
        x = Check.trees("Aa=1 Bb=2 Cc=3 Dd=4", "Ba=1 Bb=2 Dc=3 Dd=4", "Aa=1 Cb=2 Cc=3 Ad=4");
        loop(x, 1, 100, 200, 1);
        loop(x, 2, 200, 300, 1);
        loop(x, 1, 300, 400, 1);
        loop(x, 2, 400, 100, 1);
        x = Check.trees("Aa=1 Bb=2 Cc=3", "Ba=1 Bb=2 Bc=3", "Aa=1 Cb=2 Cc=3");
        loop(x, 1, 100, 200, 0);
        loop(x, 2, 200, 300, 1);
        loop(x, 1, 300, 200, 1);
    }

    private static void whatLeadsIntoALoopIsNone() {
        MovedFolders x = Check.trees("Aa=1 Bb=2 Cc=3", "Ba=1 Bb=2 Cc=3", "Aa=1 Cb=2 Cc=3");
        loop(x, 1, 100, 200, 0);
        loop(x, 2, 200, 300, 0);
        // D to C to B to A to DD: what one search has reached must not be seen by the next one
        x = Check.trees("Aa=1 Bb=2 Cc=3 Dd=4", "Aa=1 Ab=2 Cc=3 Cd=4", "DDa=1 Bb=2 Bc=3 Dd=4");
        loop(x, 1, 200, 100, 0);
        loop(x, 1, 400, 300, 0);
        loop(x, 2, 100, 440, 0);
        loop(x, 2, 300, 200, 0);
        x = Check.trees("Aa=1 Bb=2", "Ca=1 Cb=2", "Ca=1 Cb=2");
        loop(x, 1, 100, 300, 0);
        loop(x, 2, 100, 300, 0);
    }

    private static void movedRefuses() {
        MovedFolders x = Check.trees("Aa=1", "Ba=1", "");
        for (int side : new int[] {0, 3, -1, Integer.MIN_VALUE}) {
            CHECK.due("moved of no side", x.moved(side, 100, 0), MovedFolders.UNKNOWN);
            CHECK.due("moved of no side, wrong what", x.moved(side, 1, 2), MovedFolders.UNKNOWN);
        }
        for (int what : new int[] {-1, 2, Integer.MIN_VALUE, Integer.MAX_VALUE}) {
            CHECK.due("moved(1, 100, " + what + ")", x.moved(1, 100, what), MovedFolders.OUTSIDE);
            CHECK.due("moved(1, 200, " + what + ")", x.moved(1, 200, what), MovedFolders.OUTSIDE);
        }
    }

    private static void destPutsLettersBehind() {
        MovedFolders x = Check.trees("Aa=1 Db=2", "BCa=1 DAb=2", "");
        CHECK.due("dest(1, 100)", x.dest(1, 100), 230);
        CHECK.due("dest(1, 140)", x.dest(1, 140), 234);
        CHECK.due("four letters", x.dest(1, 141), 141);
        CHECK.due("dest(1, 400)", x.dest(1, 400), 410);
        CHECK.due("dest(1, 410)", x.dest(1, 410), 411);
        CHECK.due("dest(1, 411)", x.dest(1, 411), 411);
        CHECK.due("dest(1, 432)", x.dest(1, 432), 432);
        CHECK.due("dest(1, 200)", x.dest(1, 200), 200);
        CHECK.due("dest(1, 0)", x.dest(1, 0), 0);
        CHECK.due("dest(2, 100)", x.dest(2, 100), 100);
        x = Check.trees("ABCa=1 DAb=2", "Ba=1 b=2", "");
        CHECK.due("from three letters", x.dest(1, 123), 200);
        CHECK.due("what lies above stays", x.dest(1, 120), 120);
        CHECK.due("from two to none", x.dest(1, 413), 300);
        CHECK.due("from two to none", x.dest(1, 410), 0);
    }

    private static void destTakesTheFirstThatMoved() {
        MovedFolders x = Check.trees("Aa=1 ABa=2 ABCa=3", "Ba=1 Ca=2 DDDa=3", "Ba=1 DDDa=2 ABCa=3");
        CHECK.due("dest(1, 123)", x.dest(1, 123), 444);
        CHECK.due("dest(1, 124)", x.dest(1, 124), 340);
        CHECK.due("dest(1, 120)", x.dest(1, 120), 300);
        CHECK.due("dest(1, 134)", x.dest(1, 134), 234);
        CHECK.due("dest(1, 110)", x.dest(1, 110), 210);
        CHECK.due("dest(2, 120)", x.dest(2, 120), 444);
        CHECK.due("too long: none further up is asked", x.dest(2, 123), 123);
        CHECK.due("moves are not followed twice", Check.trees("Aa=1 Bb=2", "Ba=1 Cb=2", "").dest(1, 100), 200);
    }

    private static void destPassesLoops() {
        MovedFolders x = Check.trees("Aa=1 ABb=2 Cc=3", "Da=1 Cb=2 Cc=3", "Aa=1 ABb=2 ABc=3");
        loop(x, 1, 120, 300, 1);
        loop(x, 1, 100, 400, 0);
        CHECK.due("the one above the loop", x.dest(1, 120), 420);
        CHECK.due("the one above the loop", x.dest(1, 124), 424);
        CHECK.due("a loop alone", x.dest(2, 300), 300);
    }

    private static void destRefuses() {
        MovedFolders x = Check.trees("Aa=1", "Ba=1", "");
        for (int side : new int[] {0, 3, -1, Integer.MIN_VALUE}) {
            CHECK.due("dest of no side", x.dest(side, 100), MovedFolders.UNKNOWN);
            CHECK.due("dest of no side, no folder", x.dest(side, 1), MovedFolders.UNKNOWN);
        }
    }
}
