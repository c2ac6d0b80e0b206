import java.util.function.Consumer;

/** What is refused: on either side of each bound, which of several refusals is answered, and that nothing changes. */
public final class RefusalTests {
    private static final int UNKNOWN = -101, OUTSIDE = -102, STATE = -103, FULL = -104;
    private static final int FAR = Integer.MAX_VALUE, LOW = Integer.MIN_VALUE;
    private static final Check check = new Check();

    public static void main(String[] args) {
        withoutCourt();
        for (String text : new String[] {"m90,k94;1111", "q90,c94,n91;9999", "m11,k12,c13,q10;1234"}) {
            inCourt(text, RefusalTests::nobody);
            inCourt(text, RefusalTests::noSign);
            inCourt(text, RefusalTests::himself);
            inCourt(text, RefusalTests::notAsTold);
            inCourt(text, RefusalTests::noTimes);
        }
        inCrowd(RefusalTests::nobody);
        inCrowd(RefusalTests::noSign);
        inCrowd(RefusalTests::himself);
        inCrowd(RefusalTests::notAsTold);
        inCrowd(RefusalTests::noTimes);
        inCrowd(RefusalTests::noRoom);
        inCrowd(RefusalTests::notAsItStands);
        eachStateOfTell();
        eachStateOfPlan();
        eachStateOfRestore();
        check.end();
    }

    /** UNKNOWN goes ahead of OUTSIDE, and of STATE: without a COURT nobody is known, and no SIGN. */
    private static void withoutCourt() {
        UnsaidHorse x = new UnsaidHorse();
        nobody(x);
        noSign(new UnsaidHorse());
        notAsTold(new UnsaidHorse());
        noTimes(new UnsaidHorse());
        for (int sign = 0; sign < 4; sign++) {
            int any = sign;
            check.refused("no court: sign", x, () -> x.sign(any), UNKNOWN);
            check.refused("no court: forbid", x, () -> x.forbid(any, true), UNKNOWN);
            check.refused("no court: tells", x, () -> x.tells(any), UNKNOWN);
            check.refused("no court: next", x, () -> x.next(any), UNKNOWN);
        }
        check.refused("no court: court", x, x::court, STATE);
        check.refused("no court: image", x, x::image, STATE);
        check.refused("no court: restore", x, x::restore, STATE);
        check.refused("no court: audiences", x, () -> x.audiences(1, 0, 0), STATE);
        check.refused("no court: more audiences", x, () -> x.audiences(60, FAR, 2), STATE);
        Check.type(x, "m90,k94;111");
        check.refused("no whole court: court", x, x::court, STATE);
        check.refused("no whole court: about", x, () -> x.about(0, 0), UNKNOWN);
        check.refused("no whole court: image", x, x::image, STATE);
        check.refused("no whole court: restore", x, x::restore, STATE);
        x.letter('1');
        check.due("what was refused did not spoil the page", x.court(), 2);
        check.refused("a refused image is none", x, x::restore, STATE);
    }

    private static void inCourt(String text, Consumer<UnsaidHorse> refusals) {
        UnsaidHorse x = Check.courtOf(text);
        x.image();
        keepsTheImage(x, refusals);
    }

    /** The refusals, and then the IMAGE, which no digest shows, is still what it was. */
    private static void keepsTheImage(UnsaidHorse x, Consumer<UnsaidHorse> refusals) {
        x.restore();
        long before = x.digest();
        x.forbid(3, true);
        refusals.accept(x);
        check.due("the image is left", x.restore() >= 0 ? 1 : 0, 1);
        check.due("as it was", x.digest(), before);
    }

    private static void inCrowd(Consumer<UnsaidHorse> refusals) {
        keepsTheImage(crowd(), refusals);
    }

    /** All is full: THE PAGE, ASKED, plan(); the MAN and the KING are HANGED; PRINCE and MINISTER know SIGN 1. */
    private static UnsaidHorse crowd() {
        UnsaidHorse x = Check.courtOf("m90,k94,q94,n91;1111");
        x.forbid(0, true);
        x.tell(0, 1, 0);
        x.tell(1, 2, 0);
        x.tell(3, 2, 1);
        for (int many = 0; many < 12; many++) {
            x.ask(0, many, false);
            x.plan(2, 0);
        }
        Check.type(x, "m90,k94,q94,n91;1111  ");
        check.due("crowd: hanged", x.count(2), 2);
        check.due("crowd: asked", x.count(6), 6);
        check.due("crowd: letters", x.count(7), 22);
        check.due("crowd: plans", x.count(9), 12);
        x.image();
        return x;
    }

    /** UNKNOWN, and that it goes ahead of OUTSIDE (and, in a crowd, of STATE and FULL). */
    private static void nobody(UnsaidHorse x) {
        int people = x.count(0);
        for (int one : new int[] {LOW, -1, people, people + 1, 32, FAR}) {
            String who = " nobody " + one + " of " + people;
            check.refused("about:" + who, x, () -> x.about(one, 0), UNKNOWN);
            check.refused("about, OUTSIDE too:" + who, x, () -> x.about(one, 8), UNKNOWN);
            check.refused("as:" + who, x, () -> x.as(one, 0), UNKNOWN);
            check.refused("as, OUTSIDE too:" + who, x, () -> x.as(one, 5), UNKNOWN);
            check.refused("tell from:" + who, x, () -> x.tell(one, 0, 0), UNKNOWN);
            check.refused("tell to:" + who, x, () -> x.tell(0, one, 0), UNKNOWN);
            check.refused("plan:" + who, x, () -> x.plan(one, 0), UNKNOWN);
            check.refused("plan, OUTSIDE too:" + who, x, () -> x.plan(one, 13), UNKNOWN);
            check.refused("safe from:" + who, x, () -> x.safe(one, 0), UNKNOWN);
            check.refused("safe to:" + who, x, () -> x.safe(0, one), UNKNOWN);
            check.refused("ask:" + who, x, () -> x.ask(one, 0, true), UNKNOWN);
            check.refused("ask, OUTSIDE too:" + who, x, () -> x.ask(one, 16, true), UNKNOWN);
        }
    }

    private static void noSign(UnsaidHorse x) {
        for (int none : new int[] {LOW, -1, 4, 5, 32, FAR}) {
            check.refused("sign: " + none, x, () -> x.sign(none), UNKNOWN);
            check.refused("forbid: " + none, x, () -> x.forbid(none, true), UNKNOWN);
            check.refused("forbid no more: " + none, x, () -> x.forbid(none, false), UNKNOWN);
            check.refused("tell: sign " + none, x, () -> x.tell(0, 1, none), UNKNOWN);
            check.refused("tells: " + none, x, () -> x.tells(none), UNKNOWN);
            check.refused("next: " + none, x, () -> x.next(none), UNKNOWN);
        }
    }

    private static void himself(UnsaidHorse x) {
        for (int person = 0; person < x.count(0); person++) {
            int one = person;
            for (int sign = 0; sign < 4; sign++) {
                int any = sign;
                check.refused("tell: himself " + one, x, () -> x.tell(one, one, any), UNKNOWN);
            }
            check.refused("safe: himself " + one, x, () -> x.safe(one, one), UNKNOWN);
        }
    }

    /** OUTSIDE, and that it goes ahead of STATE and FULL (in a crowd). Without a COURT some name nobody. */
    private static void notAsTold(UnsaidHorse x) {
        int want = x.count(0) == 0 ? UNKNOWN : OUTSIDE;
        for (int code : new int[] {LOW, -1, 0, 31, 127, 128, FAR}) {
            check.refused("letter: " + code, x, () -> x.letter(code), OUTSIDE);
        }
        for (int what : new int[] {LOW, -1, 8, FAR}) {
            check.refused("about: what " + what, x, () -> x.about(0, what), want);
        }
        for (int kind : new int[] {LOW, -1, 5, FAR}) {
            check.refused("as: kind " + kind, x, () -> x.as(0, kind), want);
        }
        for (int what : new int[] {LOW, -1, 1, 9, 13, FAR}) {
            check.refused("plan: what " + what, x, () -> x.plan(0, what), want);
            check.refused("plan of the second: what " + what, x, () -> x.plan(1, what), want);
        }
        for (int signs : new int[] {LOW, -1, 16, FAR}) {
            check.refused("ask: signs " + signs, x, () -> x.ask(0, signs, true), want);
            check.refused("ask whether not: signs " + signs, x, () -> x.ask(0, signs, false), want);
        }
        for (int what : new int[] {LOW, -1, 10, FAR}) {
            check.refused("count: " + what, x, () -> x.count(what), OUTSIDE);
        }
    }

    /** OUTSIDE of audiences(), also where there is no COURT: it goes ahead of STATE. */
    private static void noTimes(UnsaidHorse x) {
        for (int times : new int[] {LOW, -1, 0, 61, FAR}) {
            check.refused("audiences: times " + times, x, () -> x.audiences(times, 0, 0), OUTSIDE);
        }
        for (int seed : new int[] {LOW, -2, -1}) {
            check.refused("audiences: seed " + seed, x, () -> x.audiences(1, seed, 2), OUTSIDE);
        }
        for (int what : new int[] {LOW, -1, 3, FAR}) {
            check.refused("audiences: what " + what, x, () -> x.audiences(60, FAR, what), OUTSIDE);
        }
    }

    private static void noRoom(UnsaidHorse x) {
        check.refused("letter: the first code", x, () -> x.letter(32), FULL);
        check.refused("letter: the last code", x, () -> x.letter(126), FULL);
        for (int person = 0; person < 4; person++) {
            int one = person;
            check.refused("ask: no SIGNS of " + one, x, () -> x.ask(one, 0, true), FULL);
            check.refused("ask: all SIGNS of " + one, x, () -> x.ask(one, 15, false), FULL);
        }
    }

    private static void notAsItStands(UnsaidHorse x) {
        check.refused("court: no court", x, x::court, STATE);
        check.refused("plan: no king, hanged, too often", x, () -> x.plan(0, 0), STATE);
        check.refused("plan: hanged, too often", x, () -> x.plan(1, 12), STATE);
        check.refused("plan: too often", x, () -> x.plan(2, 10), STATE);
        check.refused("plan: no king, too often", x, () -> x.plan(3, 11), STATE);
        for (int hanged = 0; hanged < 2; hanged++) {
            int one = hanged;
            for (int other = 2; other < 4; other++) {
                int living = other;
                check.refused("safe: from a hanged one", x, () -> x.safe(one, living), STATE);
                check.refused("safe: to a hanged one", x, () -> x.safe(living, one), STATE);
            }
            check.refused("safe: both are hanged", x, () -> x.safe(one, 1 - one), STATE);
        }
    }

    /** Each reason of tell() alone. */
    private static void eachStateOfTell() {
        UnsaidHorse x = crowd();
        check.refused("tell: who tells it is hanged", x, () -> x.tell(0, 3, 0), STATE);
        check.refused("tell: who is told is hanged", x, () -> x.tell(3, 0, 1), STATE);
        check.refused("tell: the prince tells a hanged one", x, () -> x.tell(2, 1, 1), STATE);
        check.refused("tell: not known to who tells it", x, () -> x.tell(3, 2, 2), STATE);
        check.refused("tell: known to the other one alone", x, () -> x.tell(3, 2, 0), STATE);
        check.refused("tell: known to both", x, () -> x.tell(3, 2, 1), STATE);
        check.refused("tell: known to both, the other way", x, () -> x.tell(2, 3, 1), STATE);
        check.due("tell: none of these", x.tell(2, 3, 0), 2);
    }

    /** Each reason of plan() alone; what is refused is not done. */
    private static void eachStateOfPlan() {
        UnsaidHorse x = Check.courtOf("m90,k94,c94,n94;1111");
        for (int time = 0; time < 13; time++) {
            for (int person : new int[] {0, 2, 3}) {
                check.due("plan: no king", x.plan(person, 0), STATE);
            }
            check.due("plan: nobody", x.plan(4, 0), UNKNOWN);
            check.due("plan: no such thing", x.plan(1, 13), OUTSIDE);
        }
        check.due("plan: nothing was done", x.count(9), 0);
        for (int time = 1; time <= 12; time++) {
            int what = time % 4 == 0 ? 0 : 9 + time % 4;
            check.due("plan: none, too", x.plan(1, what), UnsaidHorse.NONE);
            check.due("plan: done", x.count(9), time);
        }
        check.refused("plan: a thirteenth time", x, () -> x.plan(1, 0), STATE);
        UnsaidHorse hanged = Check.courtOf("k90,q94;1111");
        hanged.forbid(0, true);
        check.due("plan: the king tells it", hanged.tell(0, 1, 0), 2);
        check.refused("plan: the king is hanged", hanged, () -> hanged.plan(0, 0), STATE);
        check.due("plan: the prince is not", hanged.plan(1, 0), UnsaidHorse.NONE);
    }

    /** None was kept; or a COURT was read since; a page that was none, or words, do not matter. */
    private static void eachStateOfRestore() {
        UnsaidHorse x = Check.courtOf("m90,k94;1111");
        check.refused("restore: none was kept", x, x::restore, STATE);
        x.image();
        x.tell(0, 1, 0);
        check.due("restore: one was kept", x.restore(), 0);
        Check.read(x, "m90,k94;1110");
        check.due("restore: no court was read", x.restore(), 0);
        x.blank();
        Check.read(x, "m90,k94;1111");
        check.refused("restore: the same text was read", x, x::restore, STATE);
        x.image();
        check.due("restore: kept anew", x.restore(), 0);
        Check.read(x, "k90,q94;1111");
        check.refused("restore: another text was read", x, x::restore, STATE);
    }
}
