/** The bounds of VOTES, MOVED, LOOP and DEST: promises 13 to 15. */
public final class BoundsOfFoldersTest {
    private static final Check CHECK = new Check("BoundsOfFoldersTest");
    private static final String[] TWELVE = {"A", "B", "C", "D", "AA", "AB", "AC", "AD", "BA", "BB", "BC", "BD"};
    private static final int[] NUMBERS = {100, 200, 300, 400, 110, 120, 130, 140, 210, 220, 230, 240};
    private static final String[] CONTENTS = {"00", "11", "22", "33", "44", "55", "66", "77", "88", "99", "012", "345"};

    public static void main(String[] args) {
        votes();
        votesRefuse();
        ifThereAreAny();
        noOtherHasAsMany();
        baseHasAFileThere();
        theSideNone();
        movedRefuses();
        loops();
        twelveRound();
        destOfLengths();
        destOfNone();
        destPassesLoops();
        destRefuses();
        CHECK.end();
    }

    /** Each is one text of files with blanks between them; "" for none. */
    private static void run(String title, String base, String one, String two, String lines) {
        Script.run(CHECK, title, lay(0, base), lay(1, one), lay(2, two), lines);
    }

    private static String lay(int tree, String files) {
        return files.isEmpty() ? "" : "lay " + tree + " " + files + " -> " + files.split(" ").length;
    }

    private static void votes() {
        run("VOTES: none, one, and eight, which a FOLDER can hold", "Aa=1 Ab=2 Ac=3 Ad=4 Ae=5 Af=6 Ag=7 Ah=8",
            "Ba=1 Bb=2 Bc=3 Bd=4 Be=5 Bf=6 Bg=7 Bh=8", "Ba=1", """
            votes 1 100 200 -> 8
            votes 2 100 200 -> 1
            votes 1 100 300 -> 0
            votes 1 200 100 -> 0
            """);
        run("VOTES: FILES that lie in F, not deeper", "ABa=1 ABCb=2", "Ba=1 Bb=2", "BAa=1 BABb=2", """
            votes 1 100 200 -> 0
            votes 1 120 200 -> 1
            votes 1 123 200 -> 1
            votes 2 100 200 -> 0
            votes 2 120 200 -> 0
            votes 2 120 210 -> 1
            votes 2 123 212 -> 1
            """);
        run("VOTES of and for the row of none", "a=1 Bb=2", "DDDa=1 Bb=2", "a=1 b=2", """
            votes 1 0 444 -> 1
            votes 2 200 0 -> 1
            votes 2 0 200 -> 0
            """);
        run("VOTES of FOLDERS that no TREE has", "", "", "", """
            votes 1|2 0 100 -> 0
            votes 1|2 444 443 -> 0
            """);
    }

    private static void votesRefuse() {
        run("votes: no such SIDE", "Aa=1", "Ba=1", "", """
            votes LEAST|-1|0|3|256|MOST 100 200 -> UNKNOWN
            votes 1 100 200 -> 1
            """);
        run("votes: no such FOLDERS", "Aa=1", "Ba=1", "", """
            votes 1|2 LEAST|-100|-1|1|4|10|44|99|101|105|115|150|401|404|445|450|500|1000|MOST 200 -> OUTSIDE
            votes 1|2 100 LEAST|-100|-1|1|4|10|44|99|101|105|115|150|401|404|445|450|500|1000|MOST -> OUTSIDE
            votes 1|2 1 1 -> OUTSIDE
            """);
        run("votes: both are one", "Aa=1", "Ba=1", "", """
            votes 1|2 100 100 -> OUTSIDE
            votes 1|2 0 0 -> OUTSIDE
            votes 1|2 444 444 -> OUTSIDE
            """);
    }

    private static void ifThereAreAny() {
        run("MOVED, if there are any VOTES: all GONE is no MOVE", "Aa=1 Ab=2", "", "Ba=7 Bb=8", """
            moved 1|2 100 0|1 -> NONE
            told 41..42 -> 0
            dest 1|2 100 -> 100
            """);
        run("MOVED, if there are any VOTES: those of none have no pair", "Aa=", "Ba=", "Ba=", """
            moved 1|2 100 0|1 -> NONE
            told 41..42 -> 0
            """);
        run("one VOTE is enough, the others being GONE", "Aa=1 Ab=2 Ac=3", "Da=1", "DDDc=3", """
            moved 1 100 0 -> 400
            moved 2 100 0 -> 444
            moved 1|2 100 1 -> 0
            told 41..42 -> 1
            """);
    }

    private static void noOtherHasAsMany() {
        run("no other has as many: one and one", "Aa=1 Ab=2", "Ba=1 Cb=2", "Ca=1 Bb=2", """
            moved 1|2 100 0|1 -> NONE
            told 41..42 -> 0
            """);
        run("no other has as many: two and one", "Aa=1 Ab=2 Ac=3", "Ba=1 Cb=2 Cc=3", "Ba=1 Bb=2 Cc=3", """
            moved 1 100 0 -> 300
            moved 2 100 0 -> 200
            """);
        run("no other has as many: two, two and one", "Aa=1 Ab=2 Ac=3 Ad=4 Ae=5", "Ba=1 Cb=2 Cc=3 Dd=4 De=5",
            "Ba=1 Bb=2 Cc=3 Dd=4 De=5", """
            moved 1|2 100 0|1 -> NONE
            """);
        run("no other has as many: three, two and two", "Aa=1 Ab=2 Ac=3 Ad=4 Ae=5 Af=6 Ag=7",
            "Ba=1 Bb=2 Cc=3 Cd=4 De=5 Df=6 Dg=7", "Ba=1 Bb=2 Bc=3 Cd=4 Ce=5 Df=6 Dg=7", """
            moved 1 100 0 -> 400
            moved 2 100 0 -> 200
            """);
        run("a FOLDER and one deeper are two", "Aa=1 Ab=2", "Ba=1 BBb=2", "a=1 Cb=2", """
            moved 1|2 100 0|1 -> NONE
            """);
    }

    private static void baseHasAFileThere() {
        run("BASE has a FILE that lies in F, not deeper", "ABa=1", "CDa=1", "Ba=1", """
            moved 1|2 100 0|1 -> NONE
            moved 1 120 0 -> 340
            moved 2 120 0 -> 200
            moved 1|2 0 0|1 -> NONE
            told 41..42 -> 1
            """);
        run("a BASE without FILES: nothing has MOVED", "", "Aa=1", "Ba=1", """
            moved 1|2 100 0|1 -> NONE
            moved 1|2 0 0|1 -> NONE
            told 41..42 -> 0
            """);
    }

    private static void theSideNone() {
        run("the SIDE has none there: one that stayed", "Aa=1 Ab=2 Ac=3", "Ba=1 Bb=2 Ac=3", "Ba=1 Bb=2 Bc=3", """
            moved 1 100 0|1 -> NONE
            moved 2 100 0 -> 200
            """);
        run("the SIDE has none there: one that was renamed there", "Aa=1 Ab=2", "Ba=1 Ac=2", "Ba=1", """
            moved 1 100 0|1 -> NONE
            moved 2 100 0 -> 200
            """);
        run("the SIDE has none there: a NEW one, even of none", "Aa=1 Ab=2", "Ba=1 Bb=2 Ac=77", "Ba=1 Bb=2 Ah=", """
            moved 1|2 100 0|1 -> NONE
            """);
        run("the SIDE may have some that lie deeper", "Aa=1 ABb=2", "Ca=1 ABb=2", "Ca=1 Cb=2 AAAa=7", """
            moved 1|2 100 0 -> 300
            moved 1 120 0 -> NONE
            moved 2 120 0 -> 300
            """);
        run("a FOLDER can move into what lies in it, and out of it", "Aa=1 BCb=2", "AAa=1 Bb=2", "a=1 b=2", """
            moved 1 100 0 -> 110
            moved 1 230 0 -> 200
            moved 2 100 0 -> 0
            moved 2 230 0 -> 0
            """);
    }

    private static void movedRefuses() {
        run("moved: no such SIDE", "Aa=1", "Ba=1", "Ba=1", """
            moved LEAST|-1|0|3|256|MOST 100 0|1 -> UNKNOWN
            moved 1|2 100 0 -> 200
            """);
        run("moved: no such FOLDER", "Aa=1", "Ba=1", "Ba=1", """
            moved 1|2 LEAST|-100|-1|1|4|10|44|99|101|105|115|150|401|404|445|450|500|1000|MOST 0|1 -> OUTSIDE
            """);
        run("moved: what is 0 or 1", "Aa=1", "Ba=1", "Ba=1", """
            moved 1|2 100|200 LEAST|-1|2|3|256|MOST -> OUTSIDE
            """);
    }

    private static void loops() {
        run("a LOOP of two", "Aa=1 Bb=2", "Ba=1 Bb=2", "Aa=1 Ab=2", """
            moved 1 100 0 -> 200
            moved 1 100 1 -> 1
            moved 2 200 0 -> 100
            moved 2 200 1 -> 1
            moved 1 200 0|1 -> NONE
            moved 2 100 0|1 -> NONE
            told 41..42 -> 1
            """);
        run("a MOVE that leads into a LOOP, but not back, is none", "Aa=1 Bb=2 Cc=3", "Ba=1 Bb=2 Bc=3", "Aa=1 Cb=2 Cc=3", """
            moved 1 100 1 -> 0
            moved 1 300 1 -> 1
            moved 2 200 1 -> 1
            dest 1 100 -> 200
            dest 1 300 -> 300
            dest 2 200 -> 200
            """);
        run("a MOVE back to what lies in F, or above F, does not lead to F", "ABa=1 Cb=2", "Ca=1 Cb=2", "ABa=1 Ab=2", """
            moved 1 120 0 -> 300
            moved 2 300 0 -> 100
            moved 1 120 1 -> 0
            moved 2 300 1 -> 0
            """);
        run("a LOOP over the row of none", "a=1 DDDb=2", "DDDa=1 DDDb=2", "a=1 b=2", """
            moved 1 0 0 -> 444
            moved 2 444 0 -> 0
            moved 1 0 1 -> 1
            moved 2 444 1 -> 1
            dest 1 0 -> 0
            dest 2 444 -> 444
            """);
        run("both SIDES MOVED it alike: no LOOP", "Aa=1", "Ba=1", "Ba=1", """
            moved 1|2 100 0 -> 200
            moved 1|2 100 1 -> 0
            """);
    }

    /** Twelve FOLDERS with a FILE each: as long as a chain of MOVES can be. */
    private static void twelveRound() {
        StringBuilder base = new StringBuilder();
        StringBuilder one = new StringBuilder();
        StringBuilder two = new StringBuilder();
        for (int k = 0; k < 12; k++) {
            String file = (k % 2 == 0 ? "a=" : "b=") + CONTENTS[k];
            base.append(k == 0 ? "" : " ").append(TWELVE[k]).append(file);
            one.append(k == 0 ? "" : " ").append(TWELVE[k % 2 == 0 ? k + 1 : k]).append(file);
            two.append(k == 0 ? "" : " ").append(TWELVE[k % 2 == 0 ? k : (k + 1) % 12]).append(file);
        }
        String open = two.toString().replace("Ab=345", "DDDb=345");
        StringBuilder round = new StringBuilder("told 41..42 -> 6\n");
        StringBuilder straight = new StringBuilder("told 41..42 -> 6\n");
        for (int k = 0; k < 12; k++) {
            int side = k % 2 == 0 ? 1 : 2;
            String moved = "moved " + side + " " + NUMBERS[k];
            round.append(moved).append(" 0 -> ").append(NUMBERS[(k + 1) % 12]).append('\n').append(moved).append(" 1 -> 1\n");
            round.append("dest ").append(side).append(' ').append(NUMBERS[k]).append(" -> ").append(NUMBERS[k]).append('\n');
            straight.append(moved).append(" 1 -> 0\n");
        }
        run("a LOOP of twelve", base.toString(), one.toString(), two.toString(), round.toString());
        run("a chain of twelve that does not lead back", base.toString(), one.toString(), open,
            straight + "moved 2 240 0 -> 444\n");
    }

    private static void destOfLengths() {
        run("DEST: three letters are not more than three", "Aa=1 Bb=2 Cc=3", "BCDa=1 DDb=2 Dc=3", "", """
            dest 1 100 -> 234
            dest 1 200 -> 440
            dest 1 210 -> 441
            dest 1 300 -> 400
            dest 1 310 -> 410
            dest 1 312 -> 412
            """);
        run("DEST: more than three letters: that FOLDER itself", "Aa=1 Bb=2", "BCDa=1 DDb=2", "", """
            dest 1 110 -> 110
            dest 1 111 -> 111
            dest 1 144 -> 144
            dest 1 211 -> 211
            dest 1 244 -> 244
            """);
        run("DEST: from two and from three letters", "ABa=1 BCDb=2", "Da=1 b=2", "DDDa=1 CCb=2", """
            dest 1 120 -> 400
            dest 1 124 -> 440
            dest 1 100 -> 100
            dest 1 130 -> 130
            dest 1 234 -> 0
            dest 1 230 -> 230
            dest 1 233 -> 233
            dest 2 120 -> 444
            dest 2 121 -> 121
            dest 2 234 -> 330
            """);
        run("DEST: behind the row of none there are just the letters that went", "Aa=1 BBb=2", "a=1 b=2", "", """
            dest 1 100 -> 0
            dest 1 120 -> 200
            dest 1 123 -> 230
            dest 1 220 -> 0
            dest 1 223 -> 300
            dest 1 200 -> 200
            """);
        run("DEST: the first that has MOVED, and no other then", "Aa=1 ABb=2 ABCc=3", "Ba=1 DDb=2 c=3", "Ba=1 DDDb=2 ABCc=3", """
            dest 1 123 -> 0
            dest 1 120 -> 440
            dest 1 121 -> 441
            dest 1 100 -> 200
            dest 1 110 -> 210
            dest 2 123 -> 123
            dest 2 120 -> 444
            dest 2 131 -> 231
            """);
        run("DEST: a MOVE is followed once, and by no MOVE of the other SIDE", "Aa=1 Bb=2", "Ba=1 Bb=2", "Aa=1 Cb=2", """
            moved 1 100 0 -> 200
            moved 2 200 0 -> 300
            dest 1 100 -> 200
            dest 1 200 -> 200
            dest 2 100 -> 100
            dest 2 200 -> 300
            """);
    }

    private static void destOfNone() {
        run("DEST: if there is none, that FOLDER itself", "", "", "", """
            dest 1|2 0 -> 0
            dest 1|2 100 -> 100
            dest 1|2 120 -> 120
            dest 1|2 444 -> 444
            """);
        run("DEST by a SIDE: the other one's MOVES are not followed", "Aa=1", "Ba=1", "Aa=1", """
            dest 1 100 -> 200
            dest 2 100 -> 100
            """);
        run("DEST: when all letters went, the row of none", "a=1", "Aa=1", "BBBa=1", """
            dest 1 0 -> 100
            dest 1 100 -> 110
            dest 1 230 -> 123
            dest 1 234 -> 234
            dest 2 0 -> 222
            dest 2 100 -> 100
            dest 2 444 -> 444
            """);
    }

    private static void destPassesLoops() {
        run("DEST: the first that is no LOOP", "Aa=1 ABb=2 Cc=3", "Da=1 Cb=2 Cc=3", "Aa=1 ABb=2 ABc=3", """
            moved 1 120 1 -> 1
            dest 1 120 -> 420
            dest 1 121 -> 421
            dest 1 100 -> 400
            dest 2 300 -> 300
            dest 2 340 -> 340
            """);
    }

    private static void destRefuses() {
        run("dest: no such SIDE", "Aa=1", "Ba=1", "Ba=1", """
            dest LEAST|-1|0|3|256|MOST 100 -> UNKNOWN
            """);
        run("dest: no such FOLDER", "Aa=1", "Ba=1", "Ba=1", """
            dest 1|2 LEAST|-100|-1|1|4|10|44|99|101|105|115|150|401|404|445|450|500|1000|MOST -> OUTSIDE
            dest 1|2 100 -> 200
            """);
    }
}
