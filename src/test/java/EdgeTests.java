import java.math.BigInteger;

/** Each sentence of the document that names an edge, but for what is refused (RefusalTests): by its own words. */
public final class EdgeTests {
    private static final int NONE = -1, UNKNOWN = -101, STATE = -103, FULL = -104;
    private static final int FAR = Integer.MAX_VALUE;
    private static final String KINDS = "mkcnq";
    private static final Check check = new Check();

    public static void main(String[] args) {
        everyLetterAtEveryPlace();
        everyLengthOfAPage();
        letters32To126UpTo22();
        enoughForEachKind();
        leastAndMostTogether();
        allKnowAll();
        theFourthSignIsNone();
        aNewCourtForgets();
        fewerPeople();
        toldAndTold();
        planOfNoneToThreeWords();
        planByNumbers();
        planTwelveTimes();
        planHangsNobody();
        safeForEachKind();
        askedUpToSix();
        tellsOneToNine();
        tellsAllAndNone();
        nextLeavesFewest();
        drawsWrapAround();
        audiencesOneToSixty();
        audiencesThatCannotBe();
        imageIsTheLatest();
        imageKeepsEach();
        whatWouldBeIsNot();
        digestWrapsAround();
        digestOfTheHangedAndOfNone();
        the512thCall();
        check.end();
    }

    /** "The first letter of THE PAGE that no COURT has there, behind those ahead of it." */
    private static void everyLetterAtEveryPlace() {
        String court = "m90,k54,c51,n42;3214";
        for (int place = 0; place <= court.length(); place++) {
            for (int code = 32; code <= 126; code++) {
                UnsaidHorse x = new UnsaidHorse();
                Check.type(x, court.substring(0, place));
                x.letter(code);
                boolean fits = lettersAt(place).indexOf(code) >= 0;
                check.due("fault: code " + code + " at " + place, x.fault(), fits ? place + 1 : place);
            }
        }
        for (String ended : new String[] {"m90,k54;3214", "m90,k54,c51;3214"}) {
            for (int code = 32; code <= 126; code++) {
                UnsaidHorse x = new UnsaidHorse();
                Check.type(x, ended);
                x.letter(code);
                check.due("fault: code " + code + " behind " + ended, x.fault(), ended.length());
            }
        }
    }

    /** What a COURT of four has at a place, and one of two or three that is the same up to there. */
    private static String lettersAt(int place) {
        if (place > 15) {
            return place < 20 ? "123456789" : "";
        }
        String[] between = {",", ",;", ",;", ";"};
        String[] letters = {KINDS, "123456789", "01234", between[place / 4]};
        return letters[place % 4];
    }

    /** "How many letters it has, if there is none"; "STATE: it is none": too short and too long by one. */
    private static void everyLengthOfAPage() {
        for (String court : new String[] {"m90,k54;3214", "m90,k54,c51;3214", "m90,k54,c51,n42;3214"}) {
            for (int length = 0; length <= 22; length++) {
                UnsaidHorse x = new UnsaidHorse();
                String text = (court + "111111111111").substring(0, length);
                Check.type(x, text);
                check.due("fault of \"" + text + "\"", x.fault(), Math.min(length, court.length()));
                boolean isCourt = length == court.length();
                check.due("court of \"" + text + "\"", x.court(), isCourt ? court.length() / 4 - 1 : STATE);
                check.due("letters then of \"" + text + "\"", x.count(7), isCourt ? 0 : length);
                check.due("courts read of \"" + text + "\"", x.count(8), isCourt ? 1 : 0);
            }
        }
    }

    /** "OUTSIDE: code (32 to 126); FULL: above 22." */
    private static void letters32To126UpTo22() {
        for (int code = 32; code <= 126; code++) {
            UnsaidHorse x = new UnsaidHorse();
            for (int many = 1; many <= 22; many++) {
                check.due("letter: code " + code, x.letter(code), many);
            }
            check.due("letter: code " + code + " above 22", x.letter(code), FULL);
            check.due("blank: full", x.blank(), 22);
            check.due("blank: empty", x.blank(), 0);
            check.due("letter: room again", x.letter(code), 1);
        }
    }

    /** "As much together as NEED, or more; a CHILD, half of NEED, rounded up; a PRINCE, NEED and 2." */
    private static void enoughForEachKind() {
        int[] halves = {0, 1, 1, 2, 2, 3, 3, 4, 4, 5};
        for (int need = 1; need <= 9; need++) {
            int[] enough = {need, need, halves[need], need, need + 2};
            for (int kind = 0; kind < 5; kind++) {
                for (int much = 1; much <= 9; much++) {
                    String one = "" + KINDS.charAt(kind) + need;
                    UnsaidHorse x = Check.courtOf(one + "0," + one + "4;" + much + "111");
                    int infers = much >= enough[kind] ? 1 : 0;
                    check.due(one + " by " + much + ": infers", x.about(0, 4), infers);
                    check.due(one + " by " + much + ": count", x.count(1), infers);
                    check.due(one + " by nothing", x.about(1, 4), 0);
                }
            }
        }
        UnsaidHorse prince = Check.courtOf("q90,c91,c92;9112");
        prince.tell(1, 0, 1);
        check.due("q9 by 10", prince.about(0, 4), 0);
        check.due("q9 by 11", prince.tell(2, 0, 2), 5);
        check.due("q9 has said it", prince.about(0, 6), 1);
    }

    /** SIGNS known, as bits, from 0 to 15; they TELL from 0 to 36. */
    private static void leastAndMostTogether() {
        UnsaidHorse x = Check.courtOf("c90,c91,c92,c93;9999");
        for (int sign = 1; sign < 4; sign++) {
            check.due("most: told", x.tell(sign, 0, sign), 0);
        }
        check.due("most: known", x.about(0, 2), 15);
        check.due("most: together", x.about(0, 3), 36);
        UnsaidHorse least = Check.courtOf("m14,k13;1111");
        check.due("least: known", least.about(0, 2), 0);
        check.due("least: together", least.about(0, 3), 0);
        check.due("least: one that tells 1", least.about(1, 3), 1);
        check.due("least: enough", least.about(1, 4), 1);
    }

    /** The most words that can be: each of four tells each other one the SIGN that he alone knew. */
    private static void allKnowAll() {
        UnsaidHorse x = Check.courtOf("c90,c91,c92,c93;1111");
        for (int from = 0; from < 4; from++) {
            for (int to = 0; to < 4; to++) {
                check.due("all: " + from + " tells " + to, x.tell(from, to, from), from == to ? UNKNOWN : 0);
            }
            check.due("all: how often " + from + " told anything", x.about(from, 7), 3);
        }
        check.due("all: words", x.count(5), 12);
        for (int person = 0; person < 4; person++) {
            check.due("all: known to " + person, x.about(person, 2), 15);
            check.due("all: nothing is left to tell for " + person, x.safe(person, (person + 1) % 4), 0);
            check.due("all: audiences add nothing", x.audiences(60, person, 1), 0);
        }
    }

    /** "The SIGN (0 to 3) that is known at first (4: none)." */
    private static void theFourthSignIsNone() {
        for (int first = 0; first <= 4; first++) {
            UnsaidHorse x = Check.courtOf("m9" + first + ",k9" + (4 - first) + ";1234");
            check.due("known at first: " + first, x.about(0, 2), first == 4 ? 0 : 1 << first);
            check.due("together at first: " + first, x.about(0, 3), first == 4 ? 0 : first + 1);
            check.due("known at first, the other", x.about(1, 2), first == 0 ? 0 : 1 << 4 - first);
        }
    }

    /** "Another one is gone, with all that was"; then "no SIGN is FORBIDDEN, nobody is HANGED". */
    private static void aNewCourtForgets() {
        String text = "m90,k34,c92,q14;3311";
        UnsaidHorse x = Check.courtOf(text);
        long first = x.digest();
        for (int sign = 0; sign < 4; sign++) {
            x.forbid(sign, true);
        }
        check.due("a man is hanged", x.tell(0, 2, 0), 2);
        check.due("a king has said it", x.tell(2, 1, 0), 5);
        check.due("and is hanged, and a prince has said it", x.tell(1, 3, 0), 7);
        for (int many = 0; many < 6; many++) {
            x.ask(1, 15, false);
        }
        Check.read(x, text);
        // The digest is that of the first time but for how often a COURT was read, the last number but one.
        check.due("all is as at first", x.digest(), first + 31);
    }

    /** "Another one is gone": of four two are left, and the others tell nothing, are not asked and not counted. */
    private static void fewerPeople() {
        UnsaidHorse x = Check.courtOf("k94,m14,m50,k10;9111");
        check.due("four: infer it", x.count(1), 2);
        check.due("four: plan", x.plan(0, 10), 32);
        check.due("four: told", x.tell(2, 1, 0), 3);
        Check.read(x, "k94,m14;9111");
        check.due("two: people", x.count(0), 2);
        check.due("two: infer it", x.count(1), 0);
        check.due("two: plan", x.plan(0, 0), NONE);
        check.due("two: audiences, hanged", x.audiences(60, 1, 0), 0);
        check.due("two: audiences, infer it", x.audiences(60, 1, 1), 0);
        Check.read(x, "m14,m14,m54,m54;9111");
        check.due("four: next", x.next(0), 33);
        Check.read(x, "m14,m14;9111");
        check.due("two: next", x.next(0), 1);
    }

    /** "Did not before": who INFERS it already says nothing more, and nobody is HANGED for him. */
    private static void toldAndTold() {
        for (int kind = 0; kind < 5; kind++) {
            UnsaidHorse x = Check.courtOf("m90,m91," + KINDS.charAt(kind) + "14;9911");
            boolean kingly = kind == 1 || kind == 4;
            check.due("infers it by this", x.tell(0, 2, 0), kingly ? 5 : 3);
            check.due("inferred it before", x.tell(1, 2, 1), 0);
            check.due("hanged", x.count(2), kingly ? 0 : 1);
            check.due("said", x.count(3), kingly ? 1 : 0);
            check.due("words", x.count(5), 2);
            check.due("told anything", x.about(0, 7) + x.about(1, 7), 2);
        }
    }

    /** "0 to 3 of these"; "10 to 12 the so-manieth word (NONE: there is none such)". */
    private static void planOfNoneToThreeWords() {
        String[] texts = {"k30,c91,c92,c93;3333", "k64,c90,c91,c92;6333", "k64,c90,c91,c92;3333",
            "k90,c91,c92,c93;2223", "k94,c90,c91,c92;3333", "k94,c90,c91,c92;3323"};
        int[][] want = {{0, NONE, NONE, NONE}, {1, 16, NONE, NONE}, {2, 16, 33, NONE}, {3, 17, 34, 51}, {3, 16, 33, 50},
            {NONE, NONE, NONE, NONE}};
        for (int at = 0; at < texts.length; at++) {
            planned(texts[at], Check.courtOf(texts[at]), 0, want[at]);
        }
        // The fourth of four words that it would take is one too many.
        planned("four words", Check.courtOf("k94,c90,c91,c92;2222"), 0, new int[] {NONE, NONE, NONE, NONE});
    }

    private static void planned(String text, UnsaidHorse x, int king, int[] want) {
        check.due("plan of " + text + ": how few", x.plan(king, 0), want[0]);
        for (int word = 1; word <= 3; word++) {
            check.due("plan of " + text + ": word " + word, x.plan(king, 9 + word), want[word]);
        }
    }

    /** "Of like ones the first by numbers ... word by word". */
    private static void planByNumbers() {
        planned("who tells", Check.courtOf("c90,c90,k54;5111"), 2, new int[] {1, 8, NONE, NONE});
        planned("who tells, not a sign before", Check.courtOf("c93,c90,k54;5115"), 2, new int[] {1, 11, NONE, NONE});
        UnsaidHorse sign = Check.courtOf("c91,c90,k54;5511");
        sign.tell(1, 0, 0);
        planned("which sign", sign, 2, new int[] {1, 8, NONE, NONE});
        planned("the first word first", Check.courtOf("c91,c90,k94;5511"), 2, new int[] {2, 9, 24, NONE});
        // A word to somebody else has a number ahead of each to the king, but would be one too many.
        planned("whom", Check.courtOf("c94,c90,c91,k94;5511"), 3, new int[] {2, 28, 45, NONE});
    }

    /** "Plan() was done 12 times ever (NONE, too; it counts on, whatever is read or restored)." */
    private static void planTwelveTimes() {
        UnsaidHorse x = Check.courtOf("k90,m94;9111");
        x.image();
        for (int time = 1; time <= 5; time++) {
            check.due("twelve times: none such", x.plan(0, 10), NONE);
        }
        x.restore();
        check.due("twelve times: restored", x.count(9), 5);
        Check.read(x, "k90,q94;8111");
        check.due("twelve times: read", x.count(9), 5);
        for (int time = 6; time <= 11; time++) {
            check.due("twelve times: none", x.plan(0, 0), NONE);
        }
        check.due("twelve times: the eleventh", x.count(9), 11);
        check.due("twelve times: the twelfth", x.plan(1, 12), NONE);
        check.refused("twelve times: the thirteenth", x, () -> x.plan(1, 0), STATE);
        check.refused("twelve times: of another king", x, () -> x.plan(0, 0), STATE);
        Check.read(x, "k90,m94;9111");
        check.refused("twelve times: of another court", x, () -> x.plan(0, 0), STATE);
        check.due("twelve times: counted", x.count(9), 12);
    }

    /** "And nobody is HANGED by any of them", on the way to the KING neither. */
    private static void planHangsNobody() {
        UnsaidHorse x = Check.courtOf("m90,n34,k54;5111");
        x.forbid(0, true);
        planned("the man would hang", x, 2, new int[] {NONE, NONE, NONE, NONE});
        UnsaidHorse child = Check.courtOf("c90,n34,k54;5111");
        child.forbid(0, true);
        planned("a child would not", child, 2, new int[] {1, 8, NONE, NONE});
        UnsaidHorse dead = Check.courtOf("m90,m14,k54;5111");
        check.due("one is hanged", dead.tell(0, 1, 0), 3);
        planned("by the other one", dead, 2, new int[] {1, 24, NONE, NONE});
        UnsaidHorse over = Check.courtOf("m90,n94,k44,c94;4111");
        check.due("a minister is told", over.tell(0, 1, 0), 0);
        planned("by the man", over, 2, new int[] {1, 8, NONE, NONE});
        over.forbid(0, true);
        planned("by the minister", over, 2, new int[] {1, 24, NONE, NONE});
    }

    /** "Not known to that one yet, and not be HANGED": each kind to each, harmless or not, forbidden or not. */
    private static void safeForEachKind() {
        for (int from = 0; from < 5; from++) {
            for (int to = 0; to < 5; to++) {
                for (int need = 1; need <= 9; need += 8) {
                    String text = KINDS.charAt(from) + "91," + KINDS.charAt(to) + need + "4;1411";
                    UnsaidHorse x = Check.courtOf(text);
                    boolean kingly = to == 1 || to == 4;
                    boolean harmless = need == 9 || kingly || from == 2;
                    boolean spared = from == 2 || from == 3;
                    check.due("safe in " + text, x.safe(0, 1), harmless ? 2 : 0);
                    x.forbid(1, true);
                    check.due("safe, forbidden, in " + text, x.safe(0, 1), harmless && spared ? 2 : 0);
                    check.due("safe the other way in " + text, x.safe(1, 0), 0);
                    check.due("as it is told in " + text, x.tell(0, 1, 1) & 2, harmless && spared ? 0 : 2);
                }
            }
        }
        UnsaidHorse all = Check.courtOf("c90,n91,c92,c93;1111");
        for (int sign = 1; sign < 4; sign++) {
            all.tell(sign, 0, sign);
        }
        check.due("safe: all but the known", all.safe(0, 1), 13);
        check.due("safe: all known", all.safe(1, 0), 0);
        Check.read(all, "c90,m91,c92,n94;1111");
        all.tell(2, 0, 2);
        check.due("safe: to who knows none", all.safe(0, 3), 5);
    }

    /** "ASKED (6 at most)"; SIGNS as bits, 0 to 15; forgotten, there is room for six again. */
    private static void askedUpToSix() {
        UnsaidHorse x = Check.courtOf("m90,k94;1111");
        for (int round = 0; round < 2; round++) {
            for (int many = 1; many <= 6; many++) {
                check.due("asked: " + many, x.ask(many % 2, many % 2 == 0 ? 0 : 15, false), many);
                check.due("asked: how much is", x.count(6), many);
            }
            check.due("asked: a seventh", x.ask(0, 0, true), FULL);
            check.due("asked: the seventh is not", x.tells(0), 31);
            check.due("forget: six", x.forget(), 6);
            check.due("forget: none", x.forget(), 0);
        }
        check.due("forget: without a court", new UnsaidHorse().forget(), 0);
        // Each of six counts, the first and the last, too: the others, by no SIGNS, leave all.
        for (int at = 0; at < 6; at++) {
            for (int many = 0; many < 6; many++) {
                x.ask(0, many == at ? 1 : 0, false);
            }
            check.due("asked: number " + at + " of six", x.tells(0), 255);
            x.forget();
        }
    }

    /** "How much it can TELL (1 to 9) ... as bits (1 for 1, 2 for 2, 4 for 3, and so on)." */
    private static void tellsOneToNine() {
        for (int need = 1; need <= 9; need++) {
            int[] enough = {need, need, (need + 1) / 2, need, need + 2};
            for (int kind = 0; kind < 5; kind++) {
                UnsaidHorse x = Check.courtOf("m94," + KINDS.charAt(kind) + need + "4;1111");
                String one = "tells: " + KINDS.charAt(kind) + need;
                int below = 0;
                for (int much = 1; much <= 9; much++) {
                    below |= much < enough[kind] ? 1 << much - 1 : 0;
                }
                for (int sign = 0; sign < 4; sign++) {
                    x.ask(1, 1 << sign, true);
                    check.due(one + " would by " + sign, x.tells(sign), 511 - below);
                    x.forget();
                    x.ask(1, 1 << sign, false);
                    check.due(one + " would not by " + sign, x.tells(sign), below);
                    x.forget();
                }
            }
        }
    }

    /** "All other SIGNS as they do": just enough and just too little without it, all SIGNS, and none. */
    private static void tellsAllAndNone() {
        UnsaidHorse x = Check.courtOf("m90,m80;4415");
        int[][] askedAndWant = {{0, 6, 0, 511}, {1, 6, 0, 511}, {1, 3, 1, 504}, {0, 3, 1, 496}, {0, 10, 1, 511},
            {0, 10, 0, 0}, {1, 15, 0, 0}, {1, 15, 1, 511}, {0, 0, 0, 511}, {0, 0, 1, 0}, {0, 2, 0, 511},
            {0, 9, 1, 504}};
        for (int[] one : askedAndWant) {
            x.ask(one[0], one[1], one[2] == 1);
            check.due("tells: asked " + one[0] + " by " + one[1] + ": " + one[2], x.tells(0), one[3]);
            check.due("tells: none is next", x.next(0) == NONE ? 0 : 1, one[3] == 0 ? 0 : 1);
            x.forget();
        }
    }

    /** "So that fewest of these are left at worst: the least; none, if there are none." */
    private static void nextLeavesFewest() {
        for (int sign = 0; sign < 4; sign++) {
            // A man of NEED 5 splits nine into five and four, and so does the second one: the first is the least.
            UnsaidHorse x = Check.courtOf("m54,m54;9999");
            check.due("next: nine left, " + sign, x.next(sign), 1 << sign);
            UnsaidHorse second = Check.courtOf("m14,m54;9999");
            check.due("next: of the second, " + sign, second.next(sign), 16 + (1 << sign));
            UnsaidHorse last = Check.courtOf("m14,m14,m14,c94;9999");
            check.due("next: of the last, " + sign, last.next(sign), 48 + (1 << sign));
            UnsaidHorse useless = Check.courtOf("m14,m14;1111");
            check.due("next: all alike, " + sign, useless.next(sign), 1 << sign);
            useless.ask(0, 0, true);
            check.due("next: none left, " + sign, useless.next(sign), NONE);
        }
        UnsaidHorse x = Check.courtOf("m94,m84;1111");
        x.ask(0, 1, true);
        check.due("next: one left", x.tells(0), 256);
        check.due("next: one left, the least", x.next(0), 1);
        x.forget();
        x.ask(1, 1, true);
        check.due("next: two left", x.tells(0), 384);
        check.due("next: two left, by 9", x.next(0), 1);
        // With four and the others telling 1 each, only all SIGNS of the second one part 5 from the rest.
        UnsaidHorse all = Check.courtOf("m94,m84;1111");
        all.ask(1, 7, false);
        check.due("next: five left", all.tells(0), 31);
        check.due("next: by all signs", all.next(0), 31);
    }

    private static BigInteger nextSeed(BigInteger seed) {
        return seed.multiply(BigInteger.valueOf(1103515245)).add(BigInteger.valueOf(12345)).mod(BigInteger.TWO.pow(31));
    }

    /** "1103515245 times it and 12345, its rest by 2 to the 31", for numbers that an int cannot hold. */
    private static void drawsWrapAround() {
        UnsaidHorse x = Check.courtOf("m90,k54;1111");
        int[] seeds = {0, 1, 2, 65535, 65536, 1 << 30, FAR - 1, FAR};
        for (int first : seeds) {
            BigInteger seed = BigInteger.valueOf(first);
            for (int times = 1; times <= 60; times++) {
                seed = nextSeed(nextSeed(nextSeed(seed)));
                if (times < 4 || times > 57) {
                    check.due("the seed of " + first + " then", x.audiences(times, first, 2), seed.longValueExact());
                }
            }
        }
        check.due("the seed of 0, once", x.audiences(1, 0, 2), 654583775);
    }

    /** "Times (1 to 60), seed (0 at least)": as by tell(), of two, three and four PEOPLE. */
    private static void audiencesOneToSixty() {
        String[] texts = {"m50,k91;5555", "c50,k94,n91;9321", "n10,q92,m93,k31;4444"};
        for (String text : texts) {
            UnsaidHorse x = Check.courtOf(text);
            x.forbid(1, true);
            for (int seed : new int[] {0, 5, 77, 20000, FAR}) {
                for (int times : new int[] {1, 2, 59, 60}) {
                    UnsaidHorse y = Check.courtOf(text);
                    y.forbid(1, true);
                    hold(y, times, seed);
                    check.due("hanged in " + text, x.audiences(times, seed, 0), y.count(2));
                    check.due("infer it in " + text, x.audiences(times, seed, 1), y.count(1));
                }
            }
            check.due("as they would be: no words in " + text, x.count(5), 0);
        }
    }

    private static void hold(UnsaidHorse y, int times, int first) {
        BigInteger seed = BigInteger.valueOf(first);
        int[] draws = new int[3];
        int[] of = {y.count(0), y.count(0), 4};
        for (int time = 0; time < times; time++) {
            for (int draw = 0; draw < 3; draw++) {
                seed = nextSeed(seed);
                draws[draw] = seed.intValueExact() / 65536 % of[draw];
            }
            y.tell(draws[0], draws[1], draws[2]);
        }
    }

    /** "If that can be": nobody knows a SIGN; one of two is HANGED. The SEED goes on. */
    private static void audiencesThatCannotBe() {
        UnsaidHorse empty = Check.courtOf("m14,n14;1111");
        UnsaidHorse hanged = Check.courtOf("m90,m14;9111");
        check.due("one of two is hanged", hanged.tell(0, 1, 0), 3);
        for (int seed = 0; seed < 9; seed++) {
            check.due("nothing known: hanged", empty.audiences(60, seed, 0), 0);
            check.due("nothing known: infer it", empty.audiences(60, seed, 1), 0);
            check.due("nobody is left to tell: hanged", hanged.audiences(60, seed, 0), 1);
            check.due("nobody is left to tell: infer it", hanged.audiences(60, seed, 1), 2);
            check.due("the seed goes on all the same", empty.audiences(60, seed, 2), hanged.audiences(60, seed, 2));
        }
    }

    /** "An IMAGE is kept (one; the latest)": it may be taken up again and again, and kept anew after that. */
    private static void imageIsTheLatest() {
        UnsaidHorse x = Check.courtOf("c90,c91,c92;1111");
        check.due("image: no words", x.image(), 0);
        x.tell(0, 1, 0);
        check.due("image: one word", x.image(), 1);
        x.tell(1, 2, 1);
        check.due("restore: one word", x.restore(), 1);
        check.due("restore: known", x.about(2, 2), 4);
        check.due("restore: again", x.restore(), 1);
        x.tell(2, 0, 2);
        x.tell(2, 1, 2);
        check.due("image: three words", x.image(), 3);
        check.due("restore: three words", x.restore(), 3);
        check.due("restore: the latest", x.about(0, 2), 5);
    }

    /** "Keeps what each knows, who is HANGED, who has SAID it, what is FORBIDDEN, WORDS, what is ASKED": each alone. */
    private static void imageKeepsEach() {
        UnsaidHorse x = Check.courtOf("m90,k34,c91,n52;3112");
        x.forbid(1, true);
        x.ask(1, 1, false);
        x.image();
        x.tell(2, 0, 1);
        x.restore();
        check.due("image: known", x.about(0, 2), 1);
        check.due("image: words", x.count(5), 0);
        check.due("image: how often he told", x.about(2, 7), 0);
        check.due("image: said then", x.tell(0, 1, 0), 5);
        x.restore();
        check.due("image: said", x.about(1, 6), 0);
        x.forbid(0, true);
        check.due("image: hanged then", x.tell(0, 3, 0), 2);
        x.restore();
        check.due("image: hanged", x.about(0, 5), 0);
        check.due("image: not forbidden", x.forbid(0, false), 0);
        x.forbid(1, false);
        x.restore();
        check.due("image: forbidden", x.forbid(1, true), 1);
        x.ask(1, 1, true);
        x.restore();
        check.due("image: asked", x.count(6), 1);
        x.forget();
        x.ask(2, 2, false);
        x.restore();
        check.due("image: what is asked", x.tells(0), 3);
        hangedAndSaidStay();
    }

    private static void hangedAndSaidStay() {
        UnsaidHorse x = Check.courtOf("m90,k34,c91,n52;3112");
        x.forbid(0, true);
        check.due("image: hanged and said", x.tell(0, 1, 0), 7);
        x.image();
        x.restore();
        check.due("image: still hanged", x.about(0, 5), 1);
        check.due("image: still said", x.about(1, 6), 1);
        check.due("image: still known", x.about(1, 2), 1);
        check.due("image: still told", x.about(0, 7), 1);
    }

    /** What only looks, or tells what would be, leaves the COURT and its IMAGE, but that a plan() counts. */
    private static void whatWouldBeIsNot() {
        UnsaidHorse x = Check.courtOf("m90,k54,c91,n52;3214");
        x.ask(1, 8, true);
        long atImage = x.digest();
        x.image();
        x.tell(2, 1, 1);
        x.forbid(2, true);
        long before = x.digest();
        for (int one = 0; one < 4; one++) {
            x.about(one, 2);
            x.as(one, 1);
            x.sign(one);
            x.safe(one, (one + 1) % 4);
            x.tells(one);
            x.next(one);
            x.audiences(60, one, 0);
            x.fault();
            check.due("what would be: nothing is changed", x.digest(), before);
        }
        check.due("what would be: a plan", x.plan(1, 0), 1);
        check.due("what would be: a plan counts, the last number", x.digest(), before + 1);
        x.restore();
        check.due("what would be: the image is as it was", x.digest(), atImage + 1);
    }

    /** "As longs, wrapping": against numbers of any size. */
    private static void digestWrapsAround() {
        UnsaidHorse x = new UnsaidHorse();
        for (int length = 0; length <= 22; length++) {
            BigInteger h = BigInteger.valueOf(991);
            for (int place = 0; place < length; place++) {
                h = h.multiply(BigInteger.valueOf(31)).add(BigInteger.valueOf(126 - place));
            }
            for (int what = 0; what < 10; what++) {
                h = h.multiply(BigInteger.valueOf(31)).add(BigInteger.valueOf(what == 7 ? length : 0));
            }
            check.due("digest of " + length + " letters", x.digest(), h.longValue());
            x.letter(126 - length);
        }
    }

    /** "(One number; 0, if one of both is HANGED)"; NEXT may be NONE. */
    private static void digestOfTheHangedAndOfNone() {
        UnsaidHorse x = Check.courtOf("m90,k14;1111");
        x.forbid(0, true);
        x.tell(0, 1, 0);
        x.ask(0, 0, true);
        long[] all = {0, 9, 1, 1, 0, 1, 0, 1, 0, 1, 1, 1, 1, 1, 0, 1, 0, 0, 1, 1, 0, NONE, 1, 0, 0, NONE, 1, 0, 0, NONE,
            1, 0, 0, NONE, 2, 1, 1, 1, 1, 1, 1, 0, 1, 0};
        BigInteger h = BigInteger.valueOf(991);
        for (long one : all) {
            h = h.multiply(BigInteger.valueOf(31)).add(BigInteger.valueOf(one));
        }
        check.due("digest of a hanged one", x.digest(), h.longValue());
    }

    /** "An object is used for at most 512 calls": the last of them answers as the first. */
    private static void the512thCall() {
        UnsaidHorse x = new UnsaidHorse();
        int calls = 0;
        for (int read = 1; read <= 39; read++) {
            Check.type(x, "c90,c91;1111");
            check.due("courts read", x.court(), 2);
            calls += 13;
        }
        check.due("the last calls: told", x.tell(0, 1, 0), 0);
        check.due("the last calls: words", x.count(5), 1);
        check.due("the last calls: courts", x.count(8), 39);
        check.due("calls so far", calls + 3, 510);
        check.due("the 511th call", x.image(), 1);
        check.due("the 512th call", x.restore(), 1);
    }
}
