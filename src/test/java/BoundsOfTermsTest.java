/** What 'Terms' says of all calls: which refusal is answered, and that refused calls change nothing. */
public final class BoundsOfTermsTest {
    private static final Check CHECK = new Check("BoundsOfTermsTest");
    private static final String TWELVE = " a=1 b=2 c=3 d=4 e=5 f=6 g=7 h=8 Aa=9 Ab=0 Ac=1 Ad=2 -> 12\n";

    public static void main(String[] args) {
        whichRefusal();
        refusalsComeBeforeNone();
        changeNothing();
        fullChangesNothing();
        faultChanges();
        theLastOf512Calls();
        CHECK.end();
    }

    private static void whichRefusal() {
        Script.run(CHECK, "UNKNOWN comes before OUTSIDE", """
            lay 0 Aa=1 -> 1
            lay 1 Ba=1 -> 1
            file -1|3|LEAST|MOST 0 -1|2 -> UNKNOWN
            file 0 -1|1|LEAST|MOST -1|2 -> UNKNOWN
            pair -1|0|3|LEAST|MOST 0 -1|2 -> UNKNOWN
            pair 1 -1|1|LEAST|MOST -1|2 -> UNKNOWN
            votes -1|0|3|LEAST|MOST 1 100 -> UNKNOWN
            votes -1|0|3 100 1 -> UNKNOWN
            votes -1|0|3 100 100 -> UNKNOWN
            moved -1|0|3|LEAST|MOST 1 0 -> UNKNOWN
            moved -1|0|3 100 -1|2 -> UNKNOWN
            dest -1|0|3|LEAST|MOST 1 -> UNKNOWN
            """);
        Script.run(CHECK, "UNKNOWN comes before NO, and NO before FULL: put", "lay 0" + TWELVE, """
            put -1|3 -> UNKNOWN
            put 0 -> NO
            tell Ba=1 -> 4
            say 33 -> 5
            put 0 -> NO
            """);
        Script.run(CHECK, "UNKNOWN comes before FULL: put", "lay 0" + TWELVE, """
            copy 1|2 -> 12
            tell Ba=1 -> 4
            put -1|3 -> UNKNOWN
            put 0|1|2 -> FULL
            """);
        Script.run(CHECK, "OUTSIDE comes before FULL: say", """
            tell AAAAAAAAAAAAAAAAAAAAAAAAAAAAAAAAAAAAAAAAAAAAAAAAAAAAAAAAAAAA -> 60
            say 32|127|0|-1|LEAST|MOST -> OUTSIDE
            say 33|65|126 -> FULL
            """);
        Script.run(CHECK, "OUTSIDE comes before STATE: restore", """
            restore -1|2|LEAST|MOST -> OUTSIDE
            restore 0|1 -> STATE
            """);
        Script.run(CHECK, "NO comes before FULL: settle", """
            lay 1 a=1 b=1 c=1 d=1 e=1 f=1 g=1 -> 7
            lay 2 Aa=2 Ab=2 Ac=2 Ad=2 Ae=2 Af=2 a=2 -> 7
            entry -1 0 -> 14
            settle -> NO
            drop 2 0 -> 6
            settle -> FULL
            drop 2 0 -> 5
            settle -> 12
            """);
    }

    private static void refusalsComeBeforeNone() {
        Script.run(CHECK, "a refused call answers its refusal, even if there is none", """
            lay 0 Aa=1 -> 1
            fault -> 0
            pair 1 0 0|1 -> NONE
            pair 1 0 -1|2|LEAST|MOST -> OUTSIDE
            moved 1 100 0|1 -> NONE
            moved 1 100 -1|2|LEAST|MOST -> OUTSIDE
            entry 0 0..3 -> NONE
            entry -2|0|LEAST|MOST -1|4|LEAST|MOST -> OUTSIDE
            clash 0 0|1 -> NONE
            clash -2|0|LEAST|MOST -1|2|LEAST|MOST -> OUTSIDE
            """);
    }

    /** Script runs it once more without the refused calls, and compares all that is seen. */
    private static void changeNothing() {
        Script.run(CHECK, "refused calls change nothing", """
            lay 0 Aa=12 Ab=34 c=5 -> 3
            lay 1 Ba=12 Bb=34 c=5 -> 3
            lay 2 Aa=13 Ab=34 c=6 Ad=7 -> 4
            limit 60 -> 50
            image 1 -> 1
            drop 1 0 -> 2
            tell Da=x -> 4
            say LEAST|-1|0|32|127|MOST -> OUTSIDE
            put LEAST|-1|3|MOST -> UNKNOWN
            put 0..2 -> NO
            drop LEAST|-1|3|MOST 0 -> UNKNOWN
            drop 0 LEAST|-1|3|MOST -> UNKNOWN
            drop 1 2 -> UNKNOWN
            drop 2 4 -> UNKNOWN
            file 0 0 LEAST|-1|2|MOST -> OUTSIDE
            copy LEAST|-1|0|3|MOST -> UNKNOWN
            limit LEAST|-1|0|101|MOST -> OUTSIDE
            alike 3 0 0 0 -> UNKNOWN
            pair 1 0 LEAST|-1|2|MOST -> OUTSIDE
            origin 1 2 -> UNKNOWN
            votes 1 LEAST|-1|1|MOST 100 -> OUTSIDE
            moved 1 LEAST|-1|1|MOST 0 -> OUTSIDE
            dest 1 LEAST|-1|1|MOST -> OUTSIDE
            entry -1 LEAST|-1|1|MOST -> OUTSIDE
            clash -1 LEAST|-1|1|MOST -> OUTSIDE
            settle -> NO
            image LEAST|-1|2|MOST -> OUTSIDE
            restore LEAST|-1|2|MOST -> OUTSIDE
            restore 0 -> STATE
            told LEAST|-1|2|MOST -> OUTSIDE
            told 0 -> 4
            fault -> 3
            told 1 -> 60
            files 0 -> 2:15 1000:112 1001:134
            files 1 -> 2000:112 2001:134
            """);
    }

    private static void fullChangesNothing() {
        Script.run(CHECK, "put that is FULL leaves the pad and the tree", "lay 2" + TWELVE, """
            tell Ba=77 -> 5
            put 2 -> FULL
            told 0 -> 5
            fault -> NONE
            told 12 -> 12
            put 1 -> 1
            files 1 -> 2000:177
            """);
        Script.run(CHECK, "settle that is FULL leaves all trees", """
            lay 1 a=1 b=1 c=1 d=1 e=1 f=1 g=1 -> 7
            lay 2 Aa=2 Ab=2 Ac=2 Ad=2 Ae=2 Af=2 -> 6
            settle -> FULL
            told 10 -> 0
            told 11 -> 7
            told 12 -> 6
            """);
    }

    private static void faultChanges() {
        Script.run(CHECK, "a sign that is said changes what fault() tells", """
            fault -> 0
            say 65 -> 1
            fault -> 1
            say 97 -> 2
            fault -> 2
            say 61 -> 3
            fault -> NONE
            say 33 -> 4
            fault -> 3
            say 126 -> 5
            fault -> 3
            """);
        Script.run(CHECK, "a sign that is refused does not change what fault() tells", """
            tell Aa= -> 3
            say LEAST|-1|0|32|127|MOST -> OUTSIDE
            fault -> NONE
            told 0 -> 3
            """);
    }

    private static void theLastOf512Calls() {
        MovedFolders x = new MovedFolders();
        for (int k = 0; k < 127; k++) {
            CHECK.due("call " + (4 * k + 1), x.say('a' + k % 8), 1);
            CHECK.due("call " + (4 * k + 2), x.say('='), 2);
            CHECK.due("call " + (4 * k + 3), x.put(k % 8 < 4 ? 1 : 2), k < 4 ? k + 1 : k < 8 ? k - 3 : 4);
            CHECK.due("call " + (4 * k + 4), x.entry(-1, 0), Math.min(k + 1, 8));
        }
        CHECK.due("call 509", x.told(31), 4);
        CHECK.due("call 510", x.settle(), 8);
        CHECK.due("call 511", x.told(10), 8);
        CHECK.due("call 512", x.entry(7, 0), 7);
    }
}
