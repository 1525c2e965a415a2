/** The bounds of exchange, of IMAGES and of what is told: promises 19 to 22. */
public final class BoundsOfKeepTest {
    private static final Check CHECK = new Check("BoundsOfKeepTest");
    private static final String TWELVE = " a=1 b=1 c=1 d=1 e=1 f=1 g=1 h=1 Aa=1 Ab=1 Ac=1 Ad=1 -> 12\n";

    public static void main(String[] args) {
        exchange();
        imageOutside();
        restoreState();
        allButThePad();
        asItWas();
        twoImages();
        told();
        toldOutside();
        CHECK.end();
    }

    private static void exchange() {
        Script.run(CHECK, "exchange of SIDES without FILES", """
            exchange -> 1
            told 10..12 -> 0
            exchange -> 1
            """);
        Script.run(CHECK, "exchange of a full SIDE and an empty one", "lay 1" + TWELVE, """
            exchange -> 1
            told 11 -> 0
            told 12 -> 12
            tell DDDh= -> 5
            put 2 -> FULL
            put 1 -> 1
            exchange -> 1
            told 11 -> 12
            told 12 -> 1
            told 10 -> 0
            """);
        Script.run(CHECK, "exchange leaves BASE, the PAD, the LIMIT and the IMAGES", """
            lay 0 a=1 -> 1
            lay 1 b=2 -> 1
            limit 7 -> 50
            image 0 -> 1
            tell AB -> 2
            exchange -> 1
            told 0 -> 2
            told 1 -> 7
            files 0 -> 0:11
            files 1 -> none
            files 2 -> 1:12
            restore 1 -> STATE
            restore 0 -> 1
            files 1 -> 1:12
            files 2 -> none
            """);
        Script.run(CHECK, "what is found goes along with the SIDES", """
            lay 0 Aa=1 -> 1
            lay 1 Ba=1 -> 1
            lay 2 Aa=1 Ab=7 -> 2
            entries -> 2000:11:0:0 2001:17:0:201
            moved 1 100 0 -> 200
            moved 2 100 0 -> NONE
            exchange -> 1
            entries -> 2000:11:0:0 2001:17:0:101
            moved 1 100 0 -> NONE
            moved 2 100 0 -> 200
            pairs 1 -> 0:0 | 0 -6
            pairs 2 -> 0:1 | 0
            """);
    }

    private static void imageOutside() {
        Script.run(CHECK, "an IMAGE is 0 or 1: image", """
            lay 0 a=1 -> 1
            image LEAST|-1|2|3|256|MOST -> OUTSIDE
            restore 0|1 -> STATE
            image 0|1 -> 1
            lay 0 b=2 -> 2
            image LEAST|-1|2|3|256|MOST -> OUTSIDE
            restore 0 -> 1
            told 10 -> 1
            restore 1 -> 1
            told 10 -> 1
            """);
        Script.run(CHECK, "an IMAGE is 0 or 1: restore", """
            image 0|1 -> 1
            lay 0 a=1 -> 1
            restore LEAST|-1|2|3|256|MOST -> OUTSIDE
            told 10 -> 1
            """);
    }

    private static void restoreState() {
        Script.run(CHECK, "STATE: it was not kept", """
            lay 0 a=1 -> 1
            restore 0|1 -> STATE
            image 1 -> 1
            restore 0 -> STATE
            restore 1 -> 1
            restore 0 -> STATE
            image 0 -> 1
            restore 0|1 -> 1
            """);
        Script.run(CHECK, "STATE: neither settle nor exchange keeps one", """
            settle -> 0
            exchange -> 1
            restore 0|1 -> STATE
            """);
    }

    private static void allButThePad() {
        Script.run(CHECK, "all but the PAD: the PAD stays", """
            tell Aa= -> 3
            image 0 -> 1
            told 0 -> 3
            restore 0 -> 1
            told 0 -> 3
            fault -> NONE
            wipe -> 3
            restore 0 -> 1
            told 0 -> 0
            tell Bb=5 -> 4
            restore 0 -> 1
            put 1 -> 1
            files 1 -> 2001:15
            """);
        Script.run(CHECK, "all but the PAD: the LIMIT is kept", """
            image 0 -> 1
            limit 1 -> 50
            image 1 -> 1
            limit 100 -> 1
            restore 0 -> 1
            told 1 -> 50
            restore 1 -> 1
            told 1 -> 1
            """);
        Script.run(CHECK, "all but the PAD: three TREES", """
            lay 0 Aa=1 -> 1
            lay 1 Ba=1 -> 1
            lay 2 Aa=2 Ab=3 -> 2
            image 1 -> 1
            drop 0|1 0 -> 0
            copy 2 -> 0
            restore 1 -> 1
            files 0 -> 1000:11
            files 1 -> 2000:11
            files 2 -> 1000:12 1001:13
            moved 1 100 0 -> 200
            entries -> 2000:12:0:0 2001:13:0:201
            """);
    }

    private static void asItWas() {
        Script.run(CHECK, "an IMAGE of no FILES", "image 0 -> 1\nlay 0" + TWELVE, """
            copy 1|2 -> 12
            limit 3 -> 50
            restore 0 -> 1
            told 10..12 -> 0
            told 1 -> 50
            """);
        Script.run(CHECK, "an IMAGE of full TREES", "lay 0" + TWELVE, """
            copy 1|2 -> 12
            image 1 -> 1
            drop 0|1|2 0 -> 11
            drop 0|1|2 10 -> 10
            restore 1 -> 1
            told 10..12 -> 12
            files 2 -> 0:11 1:11 2:11 3:11 4:11 5:11 6:11 7:11 1000:11 1001:11 1002:11 1003:11
            """);
        Script.run(CHECK, "an IMAGE stays when it is restored, and when TREES change", """
            lay 0 a=1 -> 1
            image 0 -> 1
            lay 0 a=2 -> 1
            restore 0 -> 1
            files 0 -> 0:11
            lay 0 a=3 -> 1
            restore 0 -> 1
            files 0 -> 0:11
            """);
        Script.run(CHECK, "an IMAGE is kept anew", """
            lay 0 a=1 -> 1
            image 0 -> 1
            lay 0 b=2 -> 2
            image 0 -> 1
            drop 0 0 -> 1
            restore 0 -> 1
            files 0 -> 0:11 1:12
            """);
        Script.run(CHECK, "an IMAGE from before settle", """
            lay 0 Aa=1 -> 1
            lay 1 Ba=1 -> 1
            lay 2 Aa=2 -> 1
            image 0 -> 1
            settle -> 1
            files 0 -> 2000:12
            restore 0 -> 1
            files 0 -> 1000:11
            files 1 -> 2000:11
            files 2 -> 1000:12
            settle -> 1
            """);
    }

    private static void twoImages() {
        Script.run(CHECK, "each IMAGE is its own", """
            lay 0 a=1 -> 1
            image 0 -> 1
            lay 0 b=2 -> 2
            image 1 -> 1
            lay 0 c=3 -> 3
            restore 0 -> 1
            told 10 -> 1
            restore 1 -> 1
            told 10 -> 2
            restore 0 -> 1
            image 1 -> 1
            restore 1 -> 1
            told 10 -> 1
            """);
    }

    private static void told() {
        Script.run(CHECK, "told of full TREES: all GONE and all NEW", "lay 0" + TWELVE, """
            lay 1 Ba=2 Bb=2 Bc=2 Bd=2 Be=2 Bf=2 Bg=2 Bh=2 Ca=2 Cb=2 Cc=2 Cd=2 -> 12
            told 10 -> 12
            told 11 -> 12
            told 12 -> 0
            told 21 -> 12
            told 22 -> 12
            told 31 -> 12
            told 32 -> 0
            told 41..42 -> 0
            """);
        Script.run(CHECK, "told of FOLDERS that have MOVED: twelve, each for itself", """
            lay 0 Aa=0 Ba=1 Ca=2 Da=3 AAa=4 ABa=5 ACa=6 ADa=7 BAa=8 BBa=9 BCa=00 BDa=11 -> 12
            lay 1 CAa=0 CAb=1 CAc=2 CAd=3 CAe=4 CAf=5 CAg=6 CAh=7 CBa=8 CBb=9 CBc=00 CBd=11 -> 12
            told 41 -> 12
            told 42 -> 0
            told 21 -> 0
            told 31 -> 0
            """);
        Script.run(CHECK, "told of FOLDERS that have MOVED: LOOPS and the row of none too", """
            lay 0 a=1 Bb=2 -> 2
            lay 1 Ba=1 Bb=2 -> 2
            lay 2 a=1 b=2 -> 2
            moved 1 0 1 -> 1
            moved 2 200 1 -> 1
            told 41..42 -> 1
            """);
        Script.run(CHECK, "told of signs: none, and sixty", """
            told 0 -> 0
            tell !!!!!!!!!!!!!!!!!!!!!!!!!!!!!!!!!!!!!!!!!!!!!!!!!!!!!!!!!!!! -> 60
            told 0 -> 60
            say 33 -> FULL
            told 0 -> 60
            """);
        Script.run(CHECK, "told of the LIMIT: the least and the greatest", """
            limit 1 -> 50
            told 1 -> 1
            limit 100 -> 1
            told 1 -> 100
            """);
    }

    private static void toldOutside() {
        Script.run(CHECK, "told of no such TREE, no such SIDE", """
            told 9|13|20|23|30|33|40|43 -> OUTSIDE
            told LEAST|-1|2|3|50|51|52|100|256|266|65536|65546|MOST -> OUTSIDE
            told -10|-11|-21|-41 -> OUTSIDE
            """);
        for (int what = -1100; what <= 1100; what++) {
            boolean known = what == 0 || what == 1 || (what >= 10 && what <= 12) || what == 21 || what == 22
                || what == 31 || what == 32 || what == 41 || what == 42;
            int want = !known ? MovedFolders.OUTSIDE : what == 1 ? 50 : 0;
            CHECK.due("told " + what, new MovedFolders().told(what), want);
        }
    }
}
