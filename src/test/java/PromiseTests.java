import java.lang.reflect.Member;
import java.lang.reflect.Modifier;
import java.util.ArrayList;
import java.util.Arrays;
import java.util.List;

/** Each promise of the document by its number: ordinary inputs, edges, wrong inputs. */
public final class PromiseTests {
    private static final int NONE = -1, UNKNOWN = -101, OUTSIDE = -102, STATE = -103, FULL = -104;
    private static final int FAR = Integer.MAX_VALUE, LOW = Integer.MIN_VALUE;
    private static final Check check = new Check();

    public static void main(String[] args) {
        face();
        promise1NewObject();
        promise2Letter();
        promise3Blank();
        promise4Fault();
        promise5Court();
        promise6About();
        promise7As();
        promise8Sign();
        promise9Forbid();
        promise10Tell();
        promise10Inferring();
        promise10Forbidden();
        promise10Refusals();
        promise11Plan();
        promise11PlanAvoidsHanging();
        promise11Refusals();
        promise12Safe();
        promise13Ask();
        promise14Forget();
        promise15Tells();
        promise16Next();
        promise17Audiences();
        promise18Image();
        promise19Restore();
        promise20Count();
        promise21Digest();
        check.end();
    }

    private static void face() {
        List<String> open = new ArrayList<>();
        for (Member member : UnsaidHorse.class.getDeclaredMethods()) {
            if (!Modifier.isPrivate(member.getModifiers())) {
                open.add(member.getName());
            }
        }
        for (Member member : UnsaidHorse.class.getDeclaredFields()) {
            if (!Modifier.isPrivate(member.getModifiers())) {
                open.add(member.getName());
            }
        }
        open.sort(null);
        check.due("the face", open.equals(Arrays.asList("FULL", "NONE", "OUTSIDE", "STATE", "UNKNOWN", "about", "as",
                "ask", "audiences", "blank", "count", "court", "digest", "fault", "forbid", "forget", "image", "letter",
                "next", "plan", "restore", "safe", "sign", "tell", "tells")) ? 1 : 0, 1);
        check.due("NONE", UnsaidHorse.NONE, NONE);
        check.due("UNKNOWN", UnsaidHorse.UNKNOWN, UNKNOWN);
        check.due("OUTSIDE", UnsaidHorse.OUTSIDE, OUTSIDE);
        check.due("STATE", UnsaidHorse.STATE, STATE);
        check.due("FULL", UnsaidHorse.FULL, FULL);
    }

    private static void promise1NewObject() {
        UnsaidHorse x = new UnsaidHorse();
        for (int what = 0; what < 10; what++) {
            check.due("1: count(" + what + ")", x.count(what), 0);
        }
        check.due("1: about", x.about(0, 0), UNKNOWN);
        check.due("1: as", x.as(0, 0), UNKNOWN);
        check.due("1: sign", x.sign(0), UNKNOWN);
        check.due("1: forbid", x.forbid(0, true), UNKNOWN);
        check.due("1: tell", x.tell(0, 1, 0), UNKNOWN);
        check.due("1: plan", x.plan(0, 0), UNKNOWN);
        check.due("1: safe", x.safe(0, 1), UNKNOWN);
        check.due("1: ask", x.ask(0, 0, true), UNKNOWN);
        check.due("1: forget", x.forget(), 0);
        check.due("1: tells", x.tells(0), UNKNOWN);
        check.due("1: next", x.next(0), UNKNOWN);
        check.due("1: audiences", x.audiences(1, 0, 0), STATE);
        check.due("1: image", x.image(), STATE);
        check.due("1: restore", x.restore(), STATE);
        check.due("1: fault", x.fault(), 0);
        check.due("1: court", x.court(), STATE);
    }

    private static void promise2Letter() {
        UnsaidHorse x = new UnsaidHorse();
        check.refused("2: letter(31)", x, () -> x.letter(31), OUTSIDE);
        check.refused("2: letter(127)", x, () -> x.letter(127), OUTSIDE);
        check.refused("2: letter(-1)", x, () -> x.letter(-1), OUTSIDE);
        check.refused("2: letter(far)", x, () -> x.letter(FAR), OUTSIDE);
        check.due("2: letter(32)", x.letter(32), 1);
        check.due("2: letter(126)", x.letter(126), 2);
        for (int many = 3; many <= 22; many++) {
            check.due("2: letter " + many, x.letter('m'), many);
        }
        check.refused("2: letter 23", x, () -> x.letter('m'), FULL);
        check.refused("2: OUTSIDE before FULL", x, () -> x.letter(0), OUTSIDE);
        check.due("2: letters", x.count(7), 22);
    }

    private static void promise3Blank() {
        UnsaidHorse x = new UnsaidHorse();
        check.due("3: blank of none", x.blank(), 0);
        Check.type(x, "m94,xy");
        check.due("3: blank of six", x.blank(), 6);
        check.due("3: then none", x.count(7), 0);
        check.due("3: blank again", x.blank(), 0);
        check.due("3: the next letter is the first", x.letter('m'), 1);
        Check.type(x, "mmmmmmmmmmmmmmmmmmmmm");
        check.due("3: a full page", x.blank(), 22);
        check.due("3: after a full page", x.letter('m'), 1);
    }

    private static void promise4Fault() {
        faulty("", 0);
        faulty("m", 1);
        faulty("M", 0);
        faulty("1", 0);
        faulty(",", 0);
        faulty("m0", 1);
        faulty("mm", 1);
        faulty("m95", 2);
        faulty("m94", 3);
        faulty("m94;", 3);
        faulty("m94 ", 3);
        faulty("m94,", 4);
        faulty("m94,,", 4);
        faulty("c11,k90", 7);
        faulty("c11,k90,", 8);
        faulty("c11,k90;", 8);
        faulty("c11,k90;0", 8);
        faulty("c11,k90;9999", 12);
        faulty("c11,k90;99999", 12);
        faulty("c11,k90;99;", 10);
        faulty("c11,k90;99,", 10);
        faulty("c11,k90,q54;9191", 16);
        faulty("c11,k90,q54,n10,", 15);
        faulty("c11,k90,q54,n10;", 16);
        faulty("c11,k90,q54,n10;1111", 20);
        faulty("c11,k90,q54,n10;111111", 20);
        faulty("c11,k90,q54,n10m", 15);
        faulty("c11,k90,q54,n10;m", 16);
        faulty("p", 0);
        faulty("n9:", 2);
        faulty("n/", 1);
        faulty("n:", 1);
    }

    private static void faulty(String text, int want) {
        UnsaidHorse x = new UnsaidHorse();
        Check.type(x, text);
        check.due("4: fault of \"" + text + "\"", x.fault(), want);
    }

    private static void promise5Court() {
        for (String text : new String[] {"", "m94", "m94,k90", "m94,k90;999", "m94,k90;99999", "m94;9999", "m04,k90;9999",
                "m94,k90,q54,n10,m11;9", "m94,k90;1110", "c11,k90,q54,n10;11111"}) {
            UnsaidHorse x = new UnsaidHorse();
            Check.type(x, text);
            check.refused("5: court of \"" + text + "\"", x, x::court, STATE);
            check.due("5: the page of \"" + text + "\" stays", x.blank(), text.length());
        }
        UnsaidHorse x = Check.courtOf("m90,k51,c33;1234");
        check.due("5: people", x.count(0), 3);
        check.due("5: the page is empty", x.count(7), 0);
        x.tell(0, 1, 0);
        x.forbid(2, true);
        check.due("5: said in the old court", x.tell(2, 1, 3), 5);
        x.forbid(3, true);
        check.due("5: hanged in the old court", x.tell(1, 0, 3), 2);
        x.ask(0, 1, true);
        x.image();
        Check.type(x, "m90,k51,c33;1234x");
        check.due("5: no court", x.court(), STATE);
        check.due("5: all stays", x.count(5), 3);
        check.due("5: the image stays", x.restore(), 3);
        x.blank();
        Check.type(x, "m90,k51,c33;1234");
        check.due("5: court", x.court(), 3);
        for (int what : new int[] {2, 3, 4, 5, 6, 7}) {
            check.due("5: count(" + what + ") of a new court", x.count(what), 0);
        }
        check.due("5: known at first alone", x.about(1, 2), 2);
        check.due("5: nothing told", x.about(0, 7), 0);
        check.due("5: nothing said", x.about(1, 6), 0);
        check.due("5: the image is gone", x.restore(), STATE);
        check.due("5: courts read", x.count(8), 2);
        Check.type(x, "q94,n90;1111");
        check.due("5: fewer people", x.court(), 2);
        check.due("5: the third is gone", x.about(2, 0), UNKNOWN);
        Check.type(x, "q94,n90,m11,m12;5678");
        check.due("5: four people", x.court(), 4);
        check.due("5: other signs", x.sign(3), 8);
    }

    private static void promise6About() {
        UnsaidHorse x = Check.courtOf("m50,k14,c71,q93;6431");
        int[][] want = {{0, 5, 1, 6, 1, 0, 0, 0}, {1, 1, 0, 0, 0, 0, 0, 0}, {2, 7, 2, 4, 1, 0, 0, 0}, {4, 9, 8, 1, 0, 0, 0, 0}};
        for (int person = 0; person < 4; person++) {
            for (int what = 0; what < 8; what++) {
                check.due("6: about(" + person + ", " + what + ")", x.about(person, what), want[person][what]);
            }
        }
        check.due("6: a king says it", x.tell(2, 1, 1), 5);
        check.due("6: known", x.about(1, 2), 2);
        check.due("6: together", x.about(1, 3), 4);
        check.due("6: infers", x.about(1, 4), 1);
        check.due("6: said", x.about(1, 6), 1);
        check.due("6: told", x.about(2, 7), 1);
        check.due("6: two signs", x.tell(0, 2, 0), 0);
        check.due("6: two known", x.about(2, 2), 3);
        check.due("6: two together", x.about(2, 3), 10);
        x.forbid(0, true);
        check.due("6: a hanging", x.tell(0, 3, 0), 2);
        check.due("6: hanged", x.about(0, 5), 1);
        check.due("6: told twice", x.about(0, 7), 2);
        check.due("6: a minister", Check.courtOf("n90,m90;1111").about(0, 0), 3);
        check.refused("6: person -1", x, () -> x.about(-1, 0), UNKNOWN);
        check.refused("6: person 4", x, () -> x.about(4, 0), UNKNOWN);
        check.refused("6: person low", x, () -> x.about(LOW, 0), UNKNOWN);
        check.refused("6: what -1", x, () -> x.about(0, -1), OUTSIDE);
        check.refused("6: what 8", x, () -> x.about(3, 8), OUTSIDE);
        check.refused("6: UNKNOWN before OUTSIDE", x, () -> x.about(4, 8), UNKNOWN);
    }

    private static void promise7As() {
        int[][] isA = {{1, 0, 0, 0, 0}, {1, 1, 0, 0, 0}, {1, 0, 1, 0, 0}, {1, 0, 0, 1, 0}, {1, 1, 0, 0, 1}};
        String letters = "mkcnq";
        for (int own = 0; own < 5; own++) {
            UnsaidHorse x = Check.courtOf("m90," + letters.charAt(own) + "90;1111");
            for (int kind = 0; kind < 5; kind++) {
                check.due("7: " + letters.charAt(own) + " as " + kind, x.as(1, kind), isA[own][kind] == 1 ? 1 : NONE);
            }
        }
        UnsaidHorse x = Check.courtOf("m90,k90;1111");
        check.due("7: the first as a man", x.as(0, 0), 0);
        check.refused("7: person 2", x, () -> x.as(2, 0), UNKNOWN);
        check.refused("7: person -1", x, () -> x.as(-1, 9), UNKNOWN);
        check.refused("7: kind 5", x, () -> x.as(0, 5), OUTSIDE);
        check.refused("7: kind -1", x, () -> x.as(0, -1), OUTSIDE);
    }

    private static void promise8Sign() {
        UnsaidHorse x = Check.courtOf("m90,k90;1592");
        int[] want = {1, 5, 9, 2};
        for (int sign = 0; sign < 4; sign++) {
            check.due("8: sign(" + sign + ")", x.sign(sign), want[sign]);
        }
        check.refused("8: sign(4)", x, () -> x.sign(4), UNKNOWN);
        check.refused("8: sign(-1)", x, () -> x.sign(-1), UNKNOWN);
        check.refused("8: sign(far)", x, () -> x.sign(FAR), UNKNOWN);
    }

    private static void promise9Forbid() {
        UnsaidHorse x = Check.courtOf("m90,k90;1592");
        for (int sign = 0; sign < 4; sign++) {
            check.due("9: was not", x.forbid(sign, true), 0);
            check.due("9: was", x.forbid(sign, true), 1);
            check.due("9: so many", x.count(4), sign + 1);
        }
        check.due("9: was, and is not", x.forbid(2, false), 1);
        check.due("9: is not", x.forbid(2, false), 0);
        check.due("9: three", x.count(4), 3);
        check.refused("9: forbid(4)", x, () -> x.forbid(4, true), UNKNOWN);
        check.refused("9: forbid(-1)", x, () -> x.forbid(-1, false), UNKNOWN);
        check.refused("9: forbid(34)", x, () -> x.forbid(34, false), UNKNOWN);
    }

    private static void promise10Tell() {
        UnsaidHorse x = Check.courtOf("m90,k94,c94,n94;1234");
        check.due("10: harmless", x.tell(0, 1, 0), 0);
        check.due("10: known then", x.about(1, 2), 1);
        check.due("10: still known", x.about(0, 2), 1);
        check.due("10: told on", x.tell(1, 2, 0), 0);
        check.due("10: on again", x.tell(2, 3, 0), 0);
        check.due("10: words", x.count(5), 3);
        check.due("10: nobody hanged", x.count(2), 0);
    }

    private static void promise10Inferring() {
        String letters = "mkcnq";
        for (int from = 0; from < 5; from++) {
            for (int to = 0; to < 5; to++) {
                boolean kingly = to == 1 || to == 4;
                int want = 1 + (kingly ? 4 : from == 2 ? 0 : 2);
                UnsaidHorse x = Check.courtOf(letters.charAt(from) + "90," + letters.charAt(to) + "54;7111");
                String who = "10: " + letters.charAt(from) + " to " + letters.charAt(to);
                check.due(who, x.tell(0, 1, 0), want);
                check.due(who + " hanged", x.about(0, 5), want >> 1 & 1);
                check.due(who + " the hearer is not", x.about(1, 5), 0);
                check.due(who + " said", x.about(1, 6), want >> 2);
                check.due(who + " said by the teller", x.about(0, 6), 0);
            }
        }
        int[] enough = {5, 5, 3, 5, 7};
        for (int kind = 0; kind < 5; kind++) {
            for (int much = 1; much <= 9; much++) {
                UnsaidHorse x = Check.courtOf("c90," + letters.charAt(kind) + "54;" + much + "111");
                check.due("10: enough for " + letters.charAt(kind) + " by " + much, x.tell(0, 1, 0) & 1,
                        much >= enough[kind] ? 1 : 0);
            }
        }
        UnsaidHorse even = Check.courtOf("m90,c64;3111");
        check.due("10: half of an even need", even.tell(0, 1, 0), 3);
        UnsaidHorse again = Check.courtOf("m90,k31,c92;3411");
        check.due("10: infers at first", again.about(1, 4), 1);
        check.due("10: who infers already says nothing", again.tell(0, 1, 0), 0);
        check.due("10: nothing said", again.count(3), 0);
    }

    private static void promise10Forbidden() {
        String letters = "mkcnq";
        for (int from = 0; from < 5; from++) {
            boolean spared = from == 2 || from == 3;
            UnsaidHorse x = Check.courtOf(letters.charAt(from) + "91,m94,k94;9119");
            x.forbid(1, true);
            check.due("10: forbidden for " + letters.charAt(from), x.tell(0, 1, 1), spared ? 0 : 2);
            check.due("10: it is heard from " + letters.charAt(from), x.about(1, 2), 2);
            check.due("10: then he " + letters.charAt(from), x.tell(0, 2, 1), spared ? 0 : STATE);
        }
        UnsaidHorse x = Check.courtOf("m90,k94,n91;9911");
        x.forbid(0, true);
        check.due("10: forbidden, and said", x.tell(0, 1, 0), 7);
        x.forbid(1, true);
        x.forbid(1, false);
        check.due("10: no more forbidden", x.tell(2, 1, 1), 0);
        UnsaidHorse both = Check.courtOf("n90,m94;9911");
        both.forbid(0, true);
        check.due("10: a minister by the hearer", both.tell(0, 1, 0), 3);
        UnsaidHorse once = Check.courtOf("m90,m94;9911");
        once.forbid(0, true);
        check.due("10: hanged for both", once.tell(0, 1, 0), 3);
        check.due("10: one hanged", once.count(2), 1);
    }

    private static void promise10Refusals() {
        UnsaidHorse x = Check.courtOf("m90,k91,c94;1111");
        check.refused("10: from 3", x, () -> x.tell(3, 0, 0), UNKNOWN);
        check.refused("10: from -1", x, () -> x.tell(-1, 0, 0), UNKNOWN);
        check.refused("10: to 3", x, () -> x.tell(0, 3, 0), UNKNOWN);
        check.refused("10: to low", x, () -> x.tell(0, LOW, 0), UNKNOWN);
        check.refused("10: sign 4", x, () -> x.tell(0, 1, 4), UNKNOWN);
        check.refused("10: sign -1", x, () -> x.tell(0, 1, -1), UNKNOWN);
        check.refused("10: himself", x, () -> x.tell(0, 0, 0), UNKNOWN);
        check.refused("10: not known", x, () -> x.tell(0, 1, 2), STATE);
        x.tell(0, 1, 0);
        check.refused("10: known already", x, () -> x.tell(0, 1, 0), STATE);
        x.forbid(0, true);
        x.tell(0, 2, 0);
        check.due("10: hanged", x.about(0, 5), 1);
        check.refused("10: a hanged one tells", x, () -> x.tell(0, 2, 0), STATE);
        check.refused("10: a hanged one is told", x, () -> x.tell(1, 0, 1), STATE);
        check.refused("10: UNKNOWN before STATE", x, () -> x.tell(0, 2, 4), UNKNOWN);
    }

    private static void promise11Plan() {
        UnsaidHorse x = Check.courtOf("m90,k54,c91,m92;2221");
        planned(x, 1, 3, 0 * 16 + 1 * 4 + 0, 2 * 16 + 1 * 4 + 1, 3 * 16 + 1 * 4 + 2);
        check.due("11: done", x.count(9), 4);
        x.tell(0, 1, 0);
        planned(x, 1, 2, 2 * 16 + 1 * 4 + 1, 3 * 16 + 1 * 4 + 2, NONE);
        UnsaidHorse already = Check.courtOf("k90,m94;9111");
        planned(already, 0, 0, NONE, NONE, NONE);
        UnsaidHorse none = Check.courtOf("k90,m94;8111");
        planned(none, 0, NONE, NONE, NONE, NONE);
        check.due("11: NONE counts", none.count(9), 4);
        UnsaidHorse four = Check.courtOf("k94,m90,m91,m92;2222");
        check.due("11: three words do not do", four.plan(0, 0), NONE);
        UnsaidHorse prince = Check.courtOf("q50,c81,c92;3223");
        planned(prince, 0, 2, 1 * 16 + 1, 2 * 16 + 2, NONE);
    }

    private static void planned(UnsaidHorse x, int king, int few, int first, int second, int third) {
        check.due("11: how few", x.plan(king, 0), few);
        check.due("11: word 1", x.plan(king, 10), first);
        check.due("11: word 2", x.plan(king, 11), second);
        check.due("11: word 3", x.plan(king, 12), third);
    }

    private static void promise11PlanAvoidsHanging() {
        UnsaidHorse x = Check.courtOf("m90,k54,n94;5111");
        planned(x, 1, 1, 4, NONE, NONE);
        x.forbid(0, true);
        planned(x, 1, NONE, NONE, NONE, NONE);
        x.forbid(0, false);
        x.tell(0, 2, 0);
        x.forbid(0, true);
        planned(x, 1, 1, 2 * 16 + 4, NONE, NONE);
        UnsaidHorse onward = Check.courtOf("q90,c34,k90,m93;5111");
        check.due("11: a prince needs more", onward.plan(0, 0), NONE);
        UnsaidHorse both = Check.courtOf("k94,k60,m91;6511");
        planned(both, 0, 2, 16, 33, NONE);
        both.forbid(1, true);
        planned(both, 0, NONE, NONE, NONE, NONE);
        UnsaidHorse hangs = Check.courtOf("m90,m84,k90;9511");
        check.due("11: hanged", hangs.tell(0, 1, 0), 3);
        check.due("11: the dead are not asked", hangs.plan(2, 0), 0);
        UnsaidHorse dead = Check.courtOf("m93,c24,k90,m94;8135");
        dead.forbid(3, true);
        check.due("11: 8 and 5 do", dead.plan(2, 0), NONE);
        dead.forbid(3, false);
        planned(dead, 2, 1, 11, NONE, NONE);
    }

    private static void promise11Refusals() {
        UnsaidHorse x = Check.courtOf("m90,k94,q94;1111");
        check.refused("11: person 3", x, () -> x.plan(3, 0), UNKNOWN);
        check.refused("11: person -1", x, () -> x.plan(-1, 5), UNKNOWN);
        for (int what : new int[] {-1, 1, 9, 13, FAR, LOW}) {
            check.refused("11: what " + what, x, () -> x.plan(1, what), OUTSIDE);
        }
        check.refused("11: OUTSIDE before STATE", x, () -> x.plan(0, 1), OUTSIDE);
        check.refused("11: a man", x, () -> x.plan(0, 0), STATE);
        x.tell(0, 1, 0);
        x.forbid(0, true);
        x.tell(1, 2, 0);
        check.due("11: the king is hanged", x.about(1, 5), 1);
        check.refused("11: a hanged king", x, () -> x.plan(1, 0), STATE);
        x.image();
        for (int time = 1; time <= 12; time++) {
            check.due("11: a prince is a king", x.plan(2, 0), NONE);
            check.due("11: done", x.count(9), time);
        }
        check.refused("11: a thirteenth time", x, () -> x.plan(2, 0), STATE);
        x.restore();
        check.refused("11: restored", x, () -> x.plan(2, 0), STATE);
        Check.read(x, "k90,m90;9111");
        check.refused("11: another court", x, () -> x.plan(0, 0), STATE);
        check.due("11: OUTSIDE still", x.plan(0, 1), OUTSIDE);
    }

    private static void promise12Safe() {
        UnsaidHorse x = Check.courtOf("c90,m54,k34,n91;4441");
        check.due("12: a child to a man", x.safe(0, 1), 1);
        check.due("12: nothing known to tell", x.safe(1, 0), 0);
        check.due("12: a minister to a man", x.safe(3, 1), 2);
        check.due("12: to a king who would say it", x.safe(3, 2), 2);
        x.tell(3, 1, 1);
        check.due("12: known already", x.safe(3, 1), 0);
        check.due("12: a child may make it out", x.safe(0, 1), 1);
        x.tell(0, 3, 0);
        check.due("12: a minister may not", x.safe(3, 1), 0);
        check.due("12: to the child", x.safe(3, 0), 0);
        UnsaidHorse y = Check.courtOf("m90,m94,n90,k94;1111");
        check.due("12: allowed", y.safe(0, 1), 1);
        y.forbid(0, true);
        check.due("12: forbidden", y.safe(0, 1), 0);
        check.due("12: forbidden for a king's ear", y.safe(0, 3), 0);
        check.due("12: in weather", y.safe(2, 1), 1);
        check.due("12: safe changes nothing", y.count(2), 0);
        check.refused("12: from 4", y, () -> y.safe(4, 0), UNKNOWN);
        check.refused("12: to -1", y, () -> y.safe(0, -1), UNKNOWN);
        check.refused("12: himself", y, () -> y.safe(1, 1), UNKNOWN);
        y.tell(0, 1, 0);
        check.refused("12: from a hanged one", y, () -> y.safe(0, 1), STATE);
        check.refused("12: to a hanged one", y, () -> y.safe(2, 0), STATE);
        check.refused("12: UNKNOWN before STATE", y, () -> y.safe(0, 0), UNKNOWN);
    }

    private static void promise13Ask() {
        UnsaidHorse x = Check.courtOf("m90,k94;1111");
        check.refused("13: person 2", x, () -> x.ask(2, 0, true), UNKNOWN);
        check.refused("13: person -1", x, () -> x.ask(-1, 99, true), UNKNOWN);
        check.refused("13: signs 16", x, () -> x.ask(0, 16, true), OUTSIDE);
        check.refused("13: signs -1", x, () -> x.ask(0, -1, false), OUTSIDE);
        check.due("13: no signs", x.ask(0, 0, false), 1);
        check.due("13: all signs", x.ask(1, 15, false), 2);
        for (int many = 3; many <= 6; many++) {
            check.due("13: " + many, x.ask(1, 3, false), many);
        }
        check.refused("13: a seventh", x, () -> x.ask(0, 0, false), FULL);
        check.refused("13: OUTSIDE before FULL", x, () -> x.ask(0, 16, false), OUTSIDE);
        check.refused("13: UNKNOWN before FULL", x, () -> x.ask(2, 0, false), UNKNOWN);
        check.due("13: six", x.count(6), 6);
    }

    private static void promise14Forget() {
        UnsaidHorse x = Check.courtOf("m90,k94;1111");
        check.due("14: nothing yet", x.forget(), 0);
        x.ask(0, 1, true);
        x.ask(0, 2, true);
        check.due("14: two", x.forget(), 2);
        check.due("14: none more", x.count(6), 0);
        check.due("14: all is open", x.tells(0), 511);
        check.due("14: again", x.forget(), 0);
        for (int many = 1; many <= 6; many++) {
            x.ask(0, 1, true);
        }
        x.forget();
        check.due("14: room again", x.ask(0, 1, true), 1);
    }

    private static void promise15Tells() {
        UnsaidHorse x = Check.courtOf("m60,c54,q54;2341");
        check.due("15: nothing asked", x.tells(1), 511);
        x.ask(0, 3, true);
        check.due("15: 4 or more", x.tells(1), 0b111111000);
        check.due("15: sign 0 by sign 1", x.tells(0), 0b111111100);
        check.due("15: 2 and 3 are less than 6", x.tells(2), 0);
        x.ask(1, 2, false);
        check.due("15: a child would not", x.tells(1), 0);
        x.forget();
        x.ask(1, 2, true);
        check.due("15: a child by 3", x.tells(1), 0b111111100);
        x.forget();
        x.ask(2, 2, true);
        check.due("15: a prince by 7", x.tells(1), 0b111000000);
        x.ask(0, 2, false);
        check.due("15: and not 6", x.tells(1), 0);
        x.forget();
        x.ask(0, 2, false);
        check.due("15: up to 5", x.tells(1), 0b000011111);
        x.ask(0, 14, true);
        check.due("15: 1 or more", x.tells(1), 0b000011111);
        x.ask(0, 6, false);
        check.due("15: only 1", x.tells(1), 0b000000001);
        x.forget();
        x.ask(0, 0, true);
        check.due("15: never", x.tells(3), 0);
        x.forget();
        x.ask(0, 5, true);
        check.due("15: just enough without it", x.tells(1), 511);
        x.ask(1, 1, false);
        check.due("15: just too little without it", x.tells(1), 511);
        x.ask(0, 5, false);
        check.due("15: both cannot be", x.tells(1), 0);
        UnsaidHorse prince = Check.courtOf("q90,m94;1111");
        prince.ask(0, 1, true);
        check.due("15: 11 by one sign", prince.tells(0), 0);
        prince.forget();
        prince.ask(0, 1, false);
        check.due("15: always less than 11", prince.tells(0), 511);
        prince.forget();
        prince.ask(0, 7, true);
        check.due("15: 9 and 2", prince.tells(0), 256);
        check.refused("15: sign 4", x, () -> x.tells(4), UNKNOWN);
        check.refused("15: sign -1", x, () -> x.tells(-1), UNKNOWN);
    }

    private static void promise16Next() {
        UnsaidHorse x = Check.courtOf("m90,m50;1111");
        check.due("16: by 6 or by 5 alike, the least", x.next(0), 15);
        x.ask(1, 1, false);
        check.due("16: of the second, by 3 of four", x.next(0), 16 + 7);
        x.forget();
        x.ask(1, 1, true);
        check.due("16: by 8 or by 7 of five alike, the least", x.next(0), 3);
        x.ask(0, 7, true);
        check.due("16: by 9 or by 8 of three alike, the least", x.next(0), 1);
        x.ask(0, 3, true);
        check.due("16: one of two", x.next(0), 1);
        x.ask(0, 1, true);
        check.due("16: one is left, the least of all", x.next(0), 1);
        check.due("16: of another sign", x.next(3), NONE);
        x.ask(0, 1, false);
        check.due("16: none is left", x.next(0), NONE);
        UnsaidHorse hanged = Check.courtOf("m50,m94;1111");
        hanged.forbid(0, true);
        hanged.tell(0, 1, 0);
        check.due("16: the hanged are asked as well", hanged.next(0), 1);
        UnsaidHorse high = Check.courtOf("m10,m10;1111");
        check.due("16: nothing to learn", high.next(2), 4);
        check.refused("16: sign 4", x, () -> x.next(4), UNKNOWN);
        check.refused("16: sign -1", x, () -> x.next(-1), UNKNOWN);
    }

    private static void promise17Audiences() {
        UnsaidHorse x = Check.courtOf("m90,k54,c91,m52;9321");
        x.forbid(2, true);
        long before = x.digest();
        for (int seed : new int[] {0, 1, 7, 123456789, FAR}) {
            for (int times : new int[] {1, 2, 13, 60}) {
                long drawn = seed;
                for (int draw = 0; draw < 3 * times; draw++) {
                    drawn = (1103515245L * drawn + 12345L) % (1L << 31);
                }
                check.due("17: the seed then", x.audiences(times, seed, 2), drawn);
                heldByHand(x, "m90,k54,c91,m52;9321", times, seed);
            }
        }
        check.due("17: nothing is changed", x.digest(), before);
        check.refused("17: times 0", x, () -> x.audiences(0, 1, 0), OUTSIDE);
        check.refused("17: times 61", x, () -> x.audiences(61, 1, 0), OUTSIDE);
        check.refused("17: seed -1", x, () -> x.audiences(1, -1, 0), OUTSIDE);
        check.refused("17: what -1", x, () -> x.audiences(1, 1, -1), OUTSIDE);
        check.refused("17: what 3", x, () -> x.audiences(1, 1, 3), OUTSIDE);
        check.due("17: OUTSIDE before STATE", new UnsaidHorse().audiences(0, 1, 0), OUTSIDE);
        check.due("17: no court", new UnsaidHorse().audiences(60, 1, 2), STATE);
    }

    /** The audiences are told by tell() in a court like that one. */
    private static void heldByHand(UnsaidHorse x, String text, int times, int seed) {
        UnsaidHorse y = Check.courtOf(text);
        y.forbid(2, true);
        long drawn = seed;
        int[] draws = new int[3];
        int[] of = {y.count(0), y.count(0), 4};
        for (int time = 0; time < times; time++) {
            for (int draw = 0; draw < 3; draw++) {
                drawn = (1103515245L * drawn + 12345L) % (1L << 31);
                draws[draw] = (int) (drawn / 65536 % of[draw]);
            }
            y.tell(draws[0], draws[1], draws[2]);
        }
        check.due("17: hanged", x.audiences(times, seed, 0), y.count(2));
        check.due("17: infer it", x.audiences(times, seed, 1), y.count(1));
    }

    private static void promise18Image() {
        check.due("18: no court", new UnsaidHorse().image(), STATE);
        UnsaidHorse x = Check.courtOf("m90,k54,c91,m52;2321");
        long before = x.digest();
        check.due("18: no words", x.image(), 0);
        check.due("18: nothing is changed", x.digest(), before);
        x.tell(0, 1, 0);
        x.tell(2, 1, 1);
        check.due("18: two words", x.image(), 2);
        x.tell(0, 2, 0);
        check.due("18: the latest", x.restore(), 2);
    }

    private static void promise19Restore() {
        UnsaidHorse x = Check.courtOf("m90,k54,c91,m52;2321");
        check.refused("19: none was kept", x, x::restore, STATE);
        x.forbid(3, true);
        x.ask(0, 1, false);
        x.tell(0, 1, 0);
        x.image();
        long before = x.digest();
        check.due("19: said", x.tell(2, 1, 1), 5);
        x.forbid(0, true);
        x.forbid(3, false);
        check.due("19: hanged", x.tell(0, 3, 0), 2);
        x.forget();
        x.ask(1, 2, true);
        x.ask(1, 4, true);
        check.due("19: restored", x.restore(), 1);
        check.due("19: all as it was", x.digest(), before);
        x.tell(0, 2, 0);
        check.due("19: restored again", x.restore(), 1);
        check.due("19: all as it was again", x.digest(), before);
        check.due("19: told before alone", x.about(0, 7), 1);
        x.plan(1, 0);
        Check.type(x, "m9");
        x.restore();
        check.due("19: plans are counted on", x.count(9), 1);
        check.due("19: the page stays", x.count(7), 2);
        x.blank();
        Check.read(x, "m90,k54,c91,m52;2321");
        check.refused("19: a court was read since", x, x::restore, STATE);
    }

    private static void promise20Count() {
        UnsaidHorse x = Check.courtOf("m20,k34,c91,m52;2321");
        x.tell(0, 1, 0);
        x.tell(2, 1, 1);
        x.forbid(0, true);
        x.tell(0, 3, 0);
        x.ask(0, 1, false);
        x.plan(1, 0);
        x.plan(1, 12);
        Check.type(x, "m90");
        int[] want = {4, 2, 1, 1, 1, 3, 1, 3, 1, 2};
        for (int what = 0; what < 10; what++) {
            check.due("20: count(" + what + ")", x.count(what), want[what]);
        }
        check.refused("20: count(-1)", x, () -> x.count(-1), OUTSIDE);
        check.refused("20: count(10)", x, () -> x.count(10), OUTSIDE);
        check.refused("20: count(low)", x, () -> x.count(LOW), OUTSIDE);
    }

    private static void promise21Digest() {
        long none = 991;
        for (int what = 0; what < 10; what++) {
            none *= 31;
        }
        UnsaidHorse x = new UnsaidHorse();
        check.due("21: of a new object", x.digest(), none);
        Check.type(x, "~ x");
        check.due("21: of a page", x.digest(), digestByCalls(x));
        x.blank();
        Check.read(x, "m90,k54,c91,n50;2321");
        check.due("21: of a court", x.digest(), digestByCalls(x));
        x.forbid(0, true);
        x.tell(0, 1, 0);
        x.tell(3, 1, 0);
        x.ask(1, 3, true);
        x.ask(2, 5, false);
        x.plan(1, 0);
        Check.type(x, "k1");
        check.due("21: of all", x.digest(), digestByCalls(x));
        check.due("21: again", x.digest(), digestByCalls(x));
    }

    private static long digestByCalls(UnsaidHorse x) {
        List<Long> all = new ArrayList<>();
        int people = x.count(0);
        for (int person = 0; person < people; person++) {
            for (int what = 0; what < 8; what++) {
                all.add((long) x.about(person, what));
            }
            for (int other = 0; other < people; other++) {
                if (other != person) {
                    all.add((long) Math.max(0, x.safe(person, other)));
                }
            }
        }
        for (int sign = 0; sign < 4 && people > 0; sign++) {
            int was = x.forbid(sign, true);
            x.forbid(sign, was == 1);
            all.addAll(List.of((long) x.sign(sign), (long) was, (long) x.tells(sign), (long) x.next(sign)));
        }
        for (int code : pageOf(x)) {
            all.add((long) code);
        }
        for (int what = 0; what < 10; what++) {
            all.add((long) x.count(what));
        }
        long h = 991;
        for (long one : all) {
            h = 31 * h + one;
        }
        return h;
    }

    /** What promise21Digest typed, by how many letters there are. */
    private static int[] pageOf(UnsaidHorse x) {
        int[][] pages = {{}, {}, {'k', '1'}, {'~', ' ', 'x'}};
        return pages[x.count(7)];
    }
}
