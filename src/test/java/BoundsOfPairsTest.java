/** The bounds of the LIMIT, of ALIKE and of PAIRS: promises 9 to 12. */
public final class BoundsOfPairsTest {
    private static final Check CHECK = new Check("BoundsOfPairsTest");
    private static final String TWELVE = " a=1 b=1 c=1 d=1 e=1 f=1 g=1 h=1 Aa=1 Ab=1 Ac=1 Ad=1 -> 12\n";
    private static final String TWELVE_OTHERS = " Ba=C Bb=C Bc=C Bd=C Be=C Bf=C Bg=C Bh=C Ca=C Cb=C Cc=C Cd=C -> 12\n";

    public static void main(String[] args) {
        theLimit();
        alike();
        noLessThanTheLimit();
        none();
        stayed();
        asLongAsThereIsOne();
        goneAndNew();
        whoComesFirst();
        pairAndOrigin();
        thoseOfNow();
        CHECK.end();
    }

    private static void theLimit() {
        Script.run(CHECK, "the LIMIT: 1 to 100; 50 at first; which it was", """
            told 1 -> 50
            limit LEAST|-100|-50|-1|0|101|102|306|65586|MOST -> OUTSIDE
            told 1 -> 50
            limit 1 -> 50
            limit 100 -> 1
            limit 100 -> 100
            limit 0|101 -> OUTSIDE
            limit 2 -> 100
            limit 99 -> 2
            told 1 -> 99
            """);
        MovedFolders x = new MovedFolders();
        int before = 50;
        for (int percent = -50; percent <= 200; percent++) {
            boolean fine = percent >= 1 && percent <= 100;
            CHECK.due("limit " + percent, x.limit(percent), fine ? before : MovedFolders.OUTSIDE);
            before = fine ? percent : before;
        }
    }

    private static void alike(String one, String other, int want) {
        Script.run(CHECK, "ALIKE of " + one + " and " + other, "lay 1 Aa=" + one + " -> 1", "lay 2 Bb=" + other + " -> 1",
            "alike 1 0 2 0 -> " + want, "alike 2 0 1 0 -> " + want);
    }

    private static void alike() {
        alike("", "", 100);
        alike("", "0", 0);
        alike("", "999999", 0);
        alike("0", "0", 100);
        alike("0", "9", 0);
        alike("000000", "000000", 100);
        alike("999999", "999999", 100);
        alike("012345", "543210", 100);
        alike("000000", "999999", 0);
        alike("000000", "0", 16);
        alike("000000", "00000", 83);
        alike("123", "1", 33);
        alike("123", "321", 100);
        alike("112", "122", 66);
        alike("110", "001", 66);
        alike("99", "9", 50);
        alike("998", "989", 100);
        Script.run(CHECK, "ALIKE: both TREES, both FILES", """
            lay 0 a=1 b=2 -> 2
            lay 1 a=1 -> 1
            alike LEAST|-1|3|MOST 0 1 0 -> UNKNOWN
            alike 1 0 LEAST|-1|3|MOST 0 -> UNKNOWN
            alike 0 LEAST|-1|2|MOST 1 0 -> UNKNOWN
            alike 1 0 0 LEAST|-1|2|MOST -> UNKNOWN
            alike 1 1 0 0 -> UNKNOWN
            alike 0 0 1 1 -> UNKNOWN
            alike 2 0 0 0 -> UNKNOWN
            alike 0 0 2 0 -> UNKNOWN
            alike 2 0 2 0 -> UNKNOWN
            alike 0 1 0 1 -> 100
            alike 0 1 0 0 -> 0
            alike 1 0 0 0 -> 100
            """);
    }

    private static void likeAt(String one, String other, int percent) {
        Script.run(CHECK, "ALIKE by no less than the LIMIT, " + percent, "lay 0 Aa=" + one + " -> 1",
            "lay 1 Bb=" + other + " -> 1", "lay 2 Ca=" + other + " -> 1", "limit " + percent + " -> 50",
            "pairs 1 -> 0:2 | 0", "pairs 2 -> 0:2 | 0");
        if (percent < 100) {
            Script.run(CHECK, "ALIKE by less than the LIMIT, " + percent, "lay 0 Aa=" + one + " -> 1",
                "lay 1 Bb=" + other + " -> 1", "lay 2 Ca=" + other + " -> 1", "limit " + (percent + 1) + " -> 50",
                "pairs 1 -> -6:-6 | -6", "pairs 2 -> -6:-6 | -6");
        }
    }

    private static void noLessThanTheLimit() {
        likeAt("123456", "1", 16);
        likeAt("1", "123456", 16);
        likeAt("12345", "1", 20);
        likeAt("1234", "1", 25);
        likeAt("123", "1", 33);
        likeAt("12345", "12", 40);
        likeAt("12", "1", 50);
        likeAt("12345", "123", 60);
        likeAt("123", "12", 66);
        likeAt("1234", "123", 75);
        likeAt("12345", "1234", 80);
        likeAt("123456", "12345", 83);
        likeAt("12", "21", 100);
        Script.run(CHECK, "the least LIMIT does not pair those that share nothing", """
            limit 1 -> 50
            lay 0 Aa=123 -> 1
            lay 1 Ba=456 -> 1
            pairs 1 -> -6:-6 | -6
            """);
        Script.run(CHECK, "the greatest LIMIT pairs those of the same CONTENT", """
            limit 100 -> 50
            lay 0 Aa=123 -> 1
            lay 1 Bb=123 -> 1
            pairs 1 -> 0:1 | 0
            """);
        Script.run(CHECK, "the LIMIT at first is 50", """
            lay 0 Aa=12 -> 1
            lay 1 Ba=23 -> 1
            lay 2 Ba=12345 -> 1
            pairs 1 -> 0:2 | 0
            pairs 2 -> -6:-6 | -6
            """);
    }

    private static void none() {
        Script.run(CHECK, "the same CONTENT, which is not none", """
            limit 1 -> 50
            lay 0 Aa= -> 1
            lay 1 Ba= -> 1
            lay 2 Ab= -> 1
            pairs 1 -> -6:-6 | -6
            pairs 2 -> -6:-6 | -6
            """);
        Script.run(CHECK, "neither being of none", """
            limit 1 -> 50
            lay 0 Aa= Ab=1 -> 2
            lay 1 Ba=1 -> 1
            lay 2 Bb= -> 1
            pairs 1 -> -6:-6 0:1 | 1
            pairs 2 -> -6:-6 -6:-6 | -6
            """);
    }

    private static void stayed() {
        Script.run(CHECK, "FILES at the same PATH are paired whatever they hold", """
            limit 100 -> 50
            lay 0 a= b=123456 c= DDDh=1 -> 4
            lay 1 a=123456 b= c= DDDh=9 -> 4
            pairs 1 -> 0:0 1:0 2:0 3:0 | 0 1 2 3
            """);
        Script.run(CHECK, "another NAME or another FOLDER is another PATH", """
            lay 0 Aa= -> 1
            lay 1 Ab= -> 1
            lay 2 AAa= -> 1
            pairs 1 -> -6:-6 | -6
            pairs 2 -> -6:-6 | -6
            """);
    }

    private static void asLongAsThereIsOne() {
        Script.run(CHECK, "twelve that STAYED", "lay 0" + TWELVE, """
            copy 1 -> 12
            pairs 1 -> 0:0 1:0 2:0 3:0 4:0 5:0 6:0 7:0 8:0 9:0 10:0 11:0 | 0 1 2 3 4 5 6 7 8 9 10 11
            """);
        Script.run(CHECK, "one SAME by another, up to twelve", "lay 0" + TWELVE, "lay 2" + TWELVE_OTHERS.replace("C ", "1 "), """
            told 22 -> 0
            told 32 -> 0
            pairs 2 -> 0:1 1:1 2:1 3:1 4:1 5:1 6:1 7:1 8:1 9:1 10:1 11:1 | 0 1 2 3 4 5 6 7 8 9 10 11
            """);
        Script.run(CHECK, "one LIKE by another, up to twelve", "lay 0" + TWELVE, "lay 2" + TWELVE_OTHERS.replace("C ", "12 "), """
            told 22 -> 0
            told 32 -> 0
            pairs 2 -> 0:2 1:2 2:2 3:2 4:2 5:2 6:2 7:2 8:2 9:2 10:2 11:2 | 0 1 2 3 4 5 6 7 8 9 10 11
            """);
    }

    private static void goneAndNew() {
        Script.run(CHECK, "a SIDE without FILES: all of BASE are GONE", "lay 0" + TWELVE, """
            told 21..22 -> 12
            pair 1|2 0..11 0|1 -> NONE
            pair 1|2 12 0|1 -> UNKNOWN
            """);
        Script.run(CHECK, "a BASE without FILES: all of a SIDE are NEW", "lay 1" + TWELVE, """
            told 31 -> 12
            told 32 -> 0
            origin 1 0..11 -> NONE
            origin 1 12 -> UNKNOWN
            origin 2 0 -> UNKNOWN
            """);
        Script.run(CHECK, "more of BASE than of a SIDE, and less", """
            lay 0 a=1 b=1 -> 2
            lay 1 Ac=1 -> 1
            lay 2 Ac=1 Ad=1 Ae=1 -> 3
            pairs 1 -> 0:1 -6:-6 | 0
            pairs 2 -> 0:1 1:1 | 0 1 -6
            told 21 -> 1
            told 22 -> 0
            told 31 -> 0
            told 32 -> 1
            """);
    }

    private static void pairs(String title, String base, String side, String want) {
        Script.run(CHECK, title, "lay 0 " + base + " -> " + base.split(" ").length,
            "lay 1 " + side + " -> " + side.split(" ").length, "copy 2 -> " + base.split(" ").length, "pairs 1 -> " + want);
    }

    private static void whoComesFirst() {
        pairs("those that STAYED come before SAME", "a=1 b=2", "a=2", "0:0 -6:-6 | 0");
        pairs("SAME comes before LIKE", "a=12 b=21", "Aa=21", "-6:-6 0:1 | 1");
        pairs("SAME: the same NAME comes first", "a=1 h=1", "Ah=1", "-6:-6 0:1 | 1");
        pairs("SAME: then the least FILE of BASE", "a=1 b=1", "Ac=1", "0:1 -6:-6 | 0");
        pairs("SAME: the least of BASE comes before the least of the SIDE", "b=1 Aa=1", "Bc=1 Bd=1", "0:1 1:1 | 0 1");
        pairs("SAME: then the least of the SIDE", "a=1", "Ab=1 Ac=1", "0:1 | 0 -6");
        pairs("LIKE: the greatest ALIKE comes before the same NAME", "a=123", "Aa=145 Ab=124 Ac=145", "1:2 | -6 0 -6");
        pairs("LIKE: 83 comes before 80 of the same NAME", "a=12345", "Aa=1234 Ab=123456", "1:2 | -6 0");
        pairs("LIKE: then the same NAME", "a=12 h=13", "Ah=1", "-6:-6 0:2 | 1");
        pairs("LIKE: then the least FILE of BASE", "a=12 b=13", "Ac=1", "0:2 -6:-6 | 0");
        pairs("LIKE: then the least of the SIDE", "a=1", "Ab=12 Ac=13", "0:2 | 0 -6");
    }

    private static void pairAndOrigin() {
        Script.run(CHECK, "pair: a SIDE, a FILE of BASE, what is 0 or 1", """
            lay 0 a=1 b=2 -> 2
            lay 1 a=1 Ab=2 Ac=3 -> 3
            pair LEAST|-1|0|3|256|MOST 0 0|1 -> UNKNOWN
            pair 1 LEAST|-1|2|12|MOST 0|1 -> UNKNOWN
            pair 1 0 LEAST|-1|2|3|256|MOST -> OUTSIDE
            pair 1 0 0 -> 0
            pair 1 0 1 -> 0
            pair 1 1 0 -> 1
            pair 1 1 1 -> 1
            pair 2 0|1 0|1 -> NONE
            """);
        Script.run(CHECK, "origin: a SIDE, a FILE of that SIDE", """
            lay 0 a=1 b=2 -> 2
            lay 1 a=1 Ab=2 Ac=3 -> 3
            origin LEAST|-1|0|3|256|MOST 0 -> UNKNOWN
            origin 1 LEAST|-1|3|12|MOST -> UNKNOWN
            origin 2 0|1 -> UNKNOWN
            origin 1 0 -> 0
            origin 1 1 -> 1
            origin 1 2 -> NONE
            """);
    }

    private static void thoseOfNow() {
        Script.run(CHECK, "PAIRS are those of now", """
            lay 0 a=12 -> 1
            pair 1 0 1 -> NONE
            lay 1 Ab=13 -> 1
            pair 1 0 1 -> 2
            limit 51 -> 50
            pair 1 0 1 -> NONE
            limit 50 -> 51
            pair 1 0 1 -> 2
            image 0 -> 1
            copy 1 -> 1
            pair 1 0 1 -> 0
            exchange -> 1
            pair 1 0 1 -> NONE
            pair 2 0 1 -> 0
            restore 0 -> 1
            pair 1 0 1 -> 2
            drop 1 0 -> 0
            pair 1 0 1 -> NONE
            restore 0 -> 1
            lay 0 a=13 -> 1
            pair 1 0 1 -> 1
            drop 0 0 -> 0
            origin 1 0 -> NONE
            settle -> 1
            origin 1 0 -> 0
            """);
    }
}
