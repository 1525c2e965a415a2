/** The bounds of the MERGE: promises 16 to 18. */
public final class BoundsOfMergeTest {
    private static final Check CHECK = new Check("BoundsOfMergeTest");
    private static final String TWELVE = "a=1 b=1 c=1 d=1 e=1 f=1 g=1 h=1 Aa=1 Ab=1 Ac=1 Ad=1";
    private static final String TWELVE_OTHERS = "a=2 b=2 c=2 d=2 e=2 f=2 g=2 h=2 Aa=2 Ab=2 Ac=2 Ad=2";
    private static final String TWELVE_ELSEWHERE = "Ba=2 Bb=2 Bc=2 Bd=2 Be=2 Bf=2 Bg=2 Bh=2 Ca=2 Cb=2 Cc=2 Cd=2";
    private static final String ELEVEN = "a=1 b=1 c=1 d=1 e=1 f=1 g=1 h=1 Aa=1 Ab=1 Ac=1";

    public static void main(String[] args) {
        gone();
        goneOnOne();
        alikeOnBoth();
        theLesserPlace();
        contents();
        destOfOldOnes();
        newOnes();
        newOnesOfBoth();
        twoOrMore();
        numbersOfEntries();
        entryOfNone();
        clashOfNone();
        mostEntries();
        thoseOfNow();
        settle();
        CHECK.end();
    }

    private static String lay(int tree, String files) {
        return files.isEmpty() ? "" : "lay " + tree + " " + files + " -> " + files.split(" ").length;
    }

    private static void run(String title, String base, String one, String two, String lines) {
        Script.run(CHECK, title, lay(0, base), lay(1, one), lay(2, two), lines);
    }

    /** It is no matter which side is which, but for the numbers of where new ones are from. */
    private static void merge(String title, String base, String one, String two, String entries, String clashes) {
        run(title, base, one, two, "entries -> " + entries + "\nclashes -> " + clashes);
        String merged = entries.replaceAll("(\\d+:\\d+:\\d+):\\d+", "$1");
        run(title + " (exchanged)", base, two, one, "merged -> " + merged + "\nclashes -> " + clashes);
    }

    private static void gone() {
        merge("GONE on both SIDES: none", "Aa=1", "", "", "none", "none");
        merge("GONE on both SIDES: none, with NEW ones that share nothing", "Aa=1", "Ba=2", "", "2000:12:0:100", "none");
        merge("GONE on one, the same PATH and CONTENT on the other: none", "Aa=12", "", "Aa=12", "none", "none");
        merge("GONE on one, the same PATH and none on the other: none", "Aa=", "", "Aa=", "none", "none");
    }

    private static void goneOnOne() {
        merge("GONE on one, the PIECES in another order", "Aa=12", "", "Aa=21", "1000:121:2:0", "1000:2");
        merge("GONE on one, a PIECE more", "Aa=12", "", "Aa=120", "1000:1120:2:0", "1000:2");
        merge("GONE on one, no PIECE left", "Aa=12", "", "Aa=", "1000:1:2:0", "1000:2");
        merge("GONE on one, the first PIECES", "Aa=", "", "Aa=0", "1000:10:2:0", "1000:2");
        merge("GONE on one, another NAME", "Aa=12", "", "Ab=12", "1001:112:2:0", "1001:2");
        merge("GONE on one, another FOLDER", "Aa=12", "", "a=12", "0:112:2:0", "0:2");
        merge("GONE on one, all other", "Aa=12", "", "DDDh=13", "4447:113:2:0", "4447:2");
        run("GONE on one and less ALIKE than the LIMIT: GONE on both, and NEW", "Aa=12", "", "DDDh=13", """
            limit 51 -> 50
            entries -> 4447:113:0:200
            clashes -> none
            """);
    }

    private static void alikeOnBoth() {
        merge("both as BASE", "Aa=12", "Aa=12", "Aa=12", "1000:112:0:0", "none");
        merge("both alike, all other than BASE", "Aa=12", "DDDh=13", "DDDh=13", "4447:113:0:0", "none");
        merge("both alike, of none", "Aa=12", "Aa=", "Aa=", "1000:1:0:0", "none");
        merge("one has all as BASE", "Aa=12", "Aa=12", "DDDh=13", "4447:113:0:0", "none");
        merge("who was renamed here and changed there is both", "Aa=12", "Ab=12", "Aa=13", "1001:113:0:0", "none");
        merge("FOLDER here, NAME there", "Aa=12", "DDDa=12", "Ah=12", "4447:112:0:0", "none");
    }

    private static void theLesserPlace() {
        merge("else the FOLDER of the lesser number: the row of none", "Aa=1", "a=1", "DDDa=1", "0:11:1:0", "0:1");
        merge("else the FOLDER of the lesser number: the greatest two", "Aa=1", "DDCa=1", "DDDa=1", "4430:11:1:0", "4430:1");
        merge("else the NAME of the lesser number: a and h", "Ab=1", "Aa=1", "Ah=1", "1000:11:1:0", "1000:1");
        merge("else the NAME of the lesser number: g and h", "Aa=1", "Ag=1", "Ah=1", "1006:11:1:0", "1006:1");
        merge("FOLDER and NAME each, of one SIDE and the other", "Bb=1", "DDDa=1", "h=1", "0:11:1:0", "0:1");
        merge("FOLDER by one cause, NAME as one has it", "Bb=1", "Ca=1", "Db=1", "3000:11:1:0", "3000:1");
    }

    private static void contents(String base, String one, String two, int want, int causes) {
        merge("CONTENT of " + base + ", " + one + " and " + two, "Aa=" + base, "Aa=" + one, "Aa=" + two,
            "1000:" + want + ":" + causes + ":0", causes == 0 ? "none" : "1000:" + causes);
    }

    private static void contents() {
        contents("", "", "", 1, 0);
        contents("", "0", "", 10, 0);
        contents("0", "", "0", 1, 0);
        contents("", "0", "0", 10, 0);
        contents("", "1", "2", 11, 4);
        contents("", "999999", "0", 10, 4);
        contents("12", "1", "", 1, 4);
        contents("5", "0", "9", 10, 4);
        contents("5", "6", "7", 16, 4);
        contents("5", "6", "5", 16, 0);
        contents("5", "6", "56", 16, 4);
        contents("1", "12", "13", 112, 4);
        contents("1", "99", "100", 199, 4);
        contents("12", "13", "123", 113, 4);
        contents("12", "10", "92", 190, 0);
        contents("12", "10", "11", 110, 4);
        contents("12", "90", "81", 180, 4);
        contents("123456", "023450", "123459", 1023450, 4);
        contents("123456", "023456", "123450", 1023450, 0);
        contents("123456", "999999", "000000", 1000000, 4);
        contents("123456", "023456", "923456", 1023456, 4);
        contents("123456", "123450", "123459", 1123450, 4);
        contents("123456", "654321", "654321", 1654321, 0);
        contents("123456", "12345", "234567", 112345, 4);
        contents("000000", "000001", "100000", 1100001, 0);
        merge("CAUSES 1 and 4", "Aa=12", "Ba=13", "Ca=14", "2000:113:5:0", "2000:5");
        merge("CAUSE 2 and no other: the SIDE it is GONE from has all as BASE", "Aa=123", "", "Bb=134",
            "2001:1134:2:0", "2001:2");
    }

    private static void destOfOldOnes() {
        merge("the FOLDER: DEST by the one that has it as BASE", "Aa=1 Bb=2", "BCa=1 Bb=2", "Aa=1 DDb=2",
            "4401:12:0:1 4430:11:0:0", "none");
        merge("the FOLDER: DEST of more than three letters is itself", "Aa=1 Bb=2", "BCCa=1 Bb=2", "Aa=1 DDb=2",
            "2330:11:0:0 4401:12:0:1", "none");
        merge("the FOLDER: a LOOP is not followed", "Aa=1 Bb=2", "Ba=1 Bb=2", "Aa=1 Ab=2", "1001:12:0:1 2000:11:0:0", "none");
        merge("the FOLDER: both have it as BASE, no DEST", "Aa=1 Ab=2", "Ba=1", "Aa=1 Ab=3", "1001:13:2:1 2000:11:0:0", "1001:2");
    }

    private static void newOnes() {
        merge("NEW ones of a BASE without FILES", "", "DDDh=999999", "", "4447:1999999:0:100", "none");
        merge("a NEW one of none", "", "a=", "", "0:1:0:100", "none");
        merge("a NEW one: DEST by the other SIDE", "Aa=1", "Aa=1 ACDb=2", "Ba=1", "2000:11:0:0 2341:12:0:101", "none");
        merge("a NEW one: DEST of more than three letters is itself", "Aa=1", "Aa=1 ACDb=2", "BBa=1",
            "1341:12:0:101 2200:11:0:0", "none");
        merge("a NEW one: its own SIDE's MOVES do not lead it", "Aa=1", "Ba=1 ACb=2", "Aa=1",
            "1301:12:0:100 2000:11:0:0", "none");
        merge("a NEW one: a LOOP is not followed", "Aa=1 Bb=2", "Ba=1 Bb=2 Bh=7", "Aa=1 Ab=2",
            "1001:12:0:1 2000:11:0:0 2007:17:0:102", "none");
    }

    private static void newOnesOfBoth() {
        merge("two NEW ones at the same PATH with the same CONTENT are one", "", "Aa=1", "Aa=1", "1000:11:0:100", "none");
        merge("two NEW ones of none are one", "", "a=", "a=", "0:1:0:100", "none");
        merge("the same PIECES in another order are two", "", "Aa=12", "Aa=21", "1000:112:8:100 1000:121:8:200", "1000:8");
        merge("another PATH is two", "", "Aa=1", "Ab=1", "1000:11:0:100 1001:11:0:200", "none");
        merge("by DEST at the same PATH", "Aa=1", "Aa=1 Ah=7", "Ba=1 Bh=7", "2000:11:0:0 2007:17:0:101", "none");
        run("two of one SIDE are two", "Aa=1", "Ba=1", "Aa=1 Ab=2 Bb=2", """
            entries -> 2000:11:0:0 2001:12:8:201 2001:12:8:202
            clashes -> 2001:8
            """);
        run("each of SIDE 1 with the first such of SIDE 2", "Aa=1", "Ba=1 Bb=2", "Aa=1 Ab=2 Bb=2", """
            entries -> 2000:11:0:0 2001:12:8:101 2001:12:8:202
            clashes -> 2001:8
            """);
        run("each of SIDE 1, rising, the first of which takes the one of SIDE 2", "Aa=1", "Aa=1 Ab=2 Bb=2", "Ba=1 Bb=2", """
            entries -> 2000:11:0:0 2001:12:8:101 2001:12:8:102
            clashes -> 2001:8
            """);
        run("two and two are two", "Aa=1 Bc=3", "Aa=1 Ab=2 Cb=2 Cc=3", "Ca=1 Bc=3 Bb=2 Cb=2", """
            entries -> 3000:11:0:0 3001:12:8:101 3001:12:8:102 3002:13:0:1
            clashes -> 3001:8
            """);
    }

    private static void twoOrMore() {
        merge("one at a PATH has no CAUSE 8", "Aa=1", "Ba=1", "Aa=1", "2000:11:0:0", "none");
        merge("two at a PATH", "Aa=1 Ba=2", "Ca=1 Ba=2", "Aa=1 Ca=2", "3000:11:8:0 3000:12:8:1", "3000:8");
        merge("three at a PATH", "Aa=1 Ba=2 Db=3", "Ca=1 Ba=2 Cb=3", "Aa=1 Ca=2 Db=3 Da=7",
            "3000:11:8:0 3000:12:8:1 3000:17:8:202 3001:13:0:2", "3000:8");
        merge("an old and a NEW one of the same CONTENT are two", "Aa=1", "Ba=1", "Aa=1 Ba=1",
            "2000:11:8:0 2000:11:8:201", "2000:8");
        merge("all CAUSES of all ENTRIES there", "Aa=12 Ba=2", "Ca=13 Ba=2", "Da=14 Ca=2", "3000:12:8:1 3000:113:13:0", "3000:13");
        merge("all four CAUSES at one PATH", "Aa=12 Ba=3", "Ca=13", "Da=14 Ca=3", "3000:13:10:1 3000:113:13:0", "3000:15");
    }

    private static void numbersOfEntries() {
        merge("by PATHS, then by CONTENTS", "Aa=5 Ba=3", "Ca=5 Ba=3", "Aa=5 Ca=3", "3000:13:8:1 3000:15:8:0", "3000:8");
        merge("then by CAUSES", "Aa=56", "Ca=57", "Da=56 Ca=57", "3000:157:8:200 3000:157:9:0", "3000:9");
        merge("then by CAUSES, the other way round", "Aa=5 Ba=56", "Ca=5", "Aa=5 Ca=5", "3000:15:8:0 3000:15:10:1", "3000:10");
        merge("then by where they are from", "Aa=5 Ba=6", "Ca=5 Ba=6", "Aa=5 Ca=5 Ba=6",
            "2000:16:0:1 3000:15:8:0 3000:15:8:202", "3000:8");
        merge("CLASHES by PATHS, rising", "Aa=1 Bb=2 Cc=3", "a=1 Bb=5 Dc=3", "DDDa=1 Bb=6 CCc=3",
            "0:11:1:0 2001:15:4:1 3302:13:1:2", "0:1 2001:4 3302:1");
    }

    private static void entryOfNone() {
        run("entry: no ENTRIES", "", "", "", """
            entry -1 0 -> 0
            entry LEAST|-2|0|1|36|MOST 0..3 -> NONE
            entry LEAST|-2|0|1|MOST LEAST|-1|4|5|MOST -> OUTSIDE
            entry -1 LEAST|-1|1|2|3|4|MOST -> OUTSIDE
            """);
        run("entry: there is no such one", "Aa=12", "Aa=13", "Aa=12 DDDh=7", """
            entry -1 0 -> 2
            entry LEAST|-2|2|3|36|256|MOST 0..3 -> NONE
            entry 0|1 LEAST|-1|4|256|MOST -> OUTSIDE
            entry -1 LEAST|-1|1|2|3|4|256|MOST -> OUTSIDE
            entry 0 0 -> 1000
            entry 0 1 -> 113
            entry 0 2 -> 0
            entry 0 3 -> 0
            entry 1 0 -> 4447
            entry 1 1 -> 17
            entry 1 2 -> 0
            entry 1 3 -> 201
            """);
    }

    private static void clashOfNone() {
        run("clash: no CLASHES", "Aa=1", "Aa=1", "Ba=1", """
            clash -1 0 -> 0
            clash LEAST|-2|0|1|36|MOST 0|1 -> NONE
            clash LEAST|-2|0|1|MOST LEAST|-1|2|3|MOST -> OUTSIDE
            clash -1 LEAST|-1|1|2|MOST -> OUTSIDE
            """);
        run("clash: there is no such one", "Aa=1 Bb=2", "Aa=2 Bb=2", "Aa=3", """
            entry -1 0 -> 1
            clash -1 0 -> 1
            clash LEAST|-2|1|2|36|256|MOST 0|1 -> NONE
            clash 0 LEAST|-1|2|3|256|MOST -> OUTSIDE
            clash -1 LEAST|-1|1|2|256|MOST -> OUTSIDE
            clash 0 0 -> 1000
            clash 0 1 -> 4
            """);
    }

    private static void mostEntries() {
        run("as many ENTRIES as there can be: all NEW", "", TWELVE, TWELVE_ELSEWHERE, """
            entry -1 0 -> 24
            entry 0 3 -> 100
            entry 11 3 -> 111
            entry 12 3 -> 200
            entry 23 0 -> 3003
            entry 23 3 -> 211
            entry 24 0..3 -> NONE
            clash -1 0 -> 0
            settle -> FULL
            """);
        run("as many ENTRIES as there can be: old ones that are kept, and NEW ones", TWELVE, TWELVE_ELSEWHERE, TWELVE_OTHERS, """
            told 21 -> 12
            told 31 -> 12
            entry -1 0 -> 24
            entry 0 2 -> 2
            entry 11 2 -> 2
            entry 11 3 -> 11
            entry 12 2 -> 0
            entry 23 3 -> 111
            clash -1 0 -> 12
            clash 11 0 -> 1003
            clash 11 1 -> 2
            clash 12 0|1 -> NONE
            settle -> NO
            """);
        run("as many at the same PATHS as there can be", "", TWELVE, TWELVE_OTHERS, """
            entry -1 0 -> 24
            entry 23 0 -> 1003
            entry 23 2 -> 8
            clash -1 0 -> 12
            clash 0 0 -> 0
            clash 11 0 -> 1003
            clash 0|11 1 -> 8
            clash 12 0|1 -> NONE
            settle -> NO
            """);
    }

    /** Asked before and behind each change, by the one call alone. */
    private static void thoseOfNow() {
        run("CLASHES are those of now", "Aa=1 Bb=2", "Aa=2 Bb=3", "Aa=3 Bb=4", """
            clashes -> 1000:4 2001:4
            drop 2 1 -> 1
            lay 2 Bb=2 -> 2
            clash -1 0 -> 1
            clash 0 1 -> 4
            clash 1 0|1 -> NONE
            drop 1 0 -> 1
            clash 0 1 -> 2
            drop 2 0 -> 1
            clash -1 0 -> 0
            clash 0 0|1 -> NONE
            """);
        run("CLASHES of ENTRIES that are no more", "Aa=1 Bb=2", "Aa=1 Bb=3", "Aa=1 Bb=4", """
            clashes -> 2001:4
            drop 1|2 1 -> 1
            clash -1 0 -> 0
            clash 0 0|1 -> NONE
            settle -> 1
            """);
        run("ENTRIES are those of now", "Aa=1", "Aa=1", "Aa=1", """
            entry -1 0 -> 1
            drop 1 0 -> 0
            entry -1 0 -> 0
            copy 1 -> 1
            entry -1 0 -> 1
            lay 2 Ab=5 -> 2
            entry -1 0 -> 2
            image 0 -> 1
            drop 2 1 -> 1
            entry -1 0 -> 1
            restore 0 -> 1
            entry -1 0 -> 2
            exchange -> 1
            entry 1 3 -> 101
            settle -> 2
            entry 1 3 -> 1
            """);
        run("ENTRIES are those of the LIMIT of now", "Aa=12", "Bb=13", "Aa=12", """
            entries -> 2001:113:0:0
            limit 51 -> 50
            entries -> 2001:113:0:100
            limit 50 -> 51
            entries -> 2001:113:0:0
            """);
    }

    private static void settle() {
        run("settle: no FILES", "", "", "", """
            settle -> 0
            told 10..12 -> 0
            """);
        run("settle: none is left", "Aa=1 Bb=2", "", "Aa=1", """
            settle -> 0
            told 10..12 -> 0
            files 0 -> none
            """);
        run("settle: all three TREES have the FILES of the MERGE", "Aa=12 Ba=3", "Da=12", "Aa=13 Ba=3 h=", """
            tell A -> 1
            limit 70 -> 50
            settle -> 2
            files 0 -> 7:1 4000:113
            files 1 -> 7:1 4000:113
            files 2 -> 7:1 4000:113
            told 0 -> 1
            told 1 -> 70
            told 21..22 -> 0
            told 31..32 -> 0
            told 41..42 -> 0
            settle -> 2
            drop 1 0 -> 1
            told 10 -> 2
            told 12 -> 2
            """);
        run("settle: twelve are not more than 12", ELEVEN, ELEVEN + " DDDh=7", ELEVEN + " DDDh=7", """
            settle -> 12
            told 10..12 -> 12
            settle -> 12
            """);
        run("settle: thirteen are FULL", ELEVEN, ELEVEN + " DDDh=7", ELEVEN + " DDDh=7", """
            drop 2 11 -> 11
            lay 2 DDDg=7 -> 12
            entry -1 0 -> 13
            clash -1 0 -> 0
            settle -> FULL
            told 10 -> 11
            told 11..12 -> 12
            """);
        run("settle: twelve full ones, nothing changed", TWELVE, TWELVE, TWELVE, """
            settle -> 12
            told 10..12 -> 12
            """);
        run("settle: not CLEAN by CAUSE 1", "Aa=1", "Ba=1", "Ca=1", "settle -> NO");
        run("settle: not CLEAN by CAUSE 2", "Aa=1", "", "Aa=2", "settle -> NO");
        run("settle: not CLEAN by CAUSE 4", "Aa=1", "Aa=2", "Aa=3", "settle -> NO");
        run("settle: not CLEAN by CAUSE 8", "", "Aa=1", "Aa=2", "settle -> NO");
    }
}
