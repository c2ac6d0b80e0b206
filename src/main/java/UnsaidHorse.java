/** A court in which nobody may say that the king's horse is dead, read from a text. */
public final class UnsaidHorse {
    public static final int NONE = -1, UNKNOWN = -101, OUTSIDE = -102, STATE = -103, FULL = -104;

    private static final int MAN = 0, KING = 1, CHILD = 2, MINISTER = 3, PRINCE = 4;
    private static final String KIND_LETTERS = "mkcnq";

    private static final int MOST_PEOPLE = 4;
    private static final int SIGNS = 4;
    private static final int ALL_SIGNS = 15;
    // An amount is how much a SIGN TELLS, 1 to 9.
    private static final int MOST_AMOUNT = 9;
    private static final int ALL_AMOUNTS = 511;

    private static final int PAGE_SIZE = 22;
    // Where the ";" stands behind two PEOPLE and behind four, and how many letters it and the digits are.
    private static final int FIRST_END = 7;
    private static final int LAST_END = 15;
    private static final int TAIL = 5;

    private static final int MOST_PLAN_WORDS = 3;
    private static final int MOST_PLANS = 12;
    private static final int MOST_ASKED = 6;
    private static final int MOST_TIMES = 60;

    private static final int ABOUTS = 8;
    private static final int COUNTS = 10;

    private final Page thePage = new Page();
    private final Court theCourt = new Court();
    private final Scene now = new Scene();
    private final Scene kept = new Scene();
    private final Scene trial = new Scene();
    private final int[] planWords = new int[MOST_PLAN_WORDS];
    private boolean isKept;
    private int courtsRead;
    private int plansDone;

    public UnsaidHorse() {
    }

    // ---- the court

    public int letter(int code) {
        if (code < 32 || code > 126) {
            return OUTSIDE;
        }
        if (thePage.length >= PAGE_SIZE) {
            return FULL;
        }
        thePage.add(code);
        return thePage.length;
    }

    public int blank() {
        int had = thePage.length;
        thePage.length = 0;
        return had;
    }

    public int fault() {
        return thePage.firstFault();
    }

    public int court() {
        if (!thePage.isCourt()) {
            return STATE;
        }
        theCourt.read(thePage);
        now.open(theCourt);
        isKept = false;
        courtsRead++;
        thePage.length = 0;
        return theCourt.people;
    }

    // ---- people, signs

    public int about(int person, int what) {
        if (!theCourt.isPerson(person)) {
            return UNKNOWN;
        }
        int known = now.knownTo(person);
        switch (what) {
            case 0: return theCourt.kindOf(person);
            case 1: return theCourt.needOf(person);
            case 2: return known;
            case 3: return theCourt.together(known);
            case 4: return theCourt.infers(person, known) ? 1 : 0;
            case 5: return now.isHanged(person) ? 1 : 0;
            case 6: return now.hasSaid(person) ? 1 : 0;
            case 7: return now.wordsOf(person);
            default: return OUTSIDE;
        }
    }

    public int as(int person, int kind) {
        if (!theCourt.isPerson(person)) {
            return UNKNOWN;
        }
        if (kind < MAN || kind > PRINCE) {
            return OUTSIDE;
        }
        return theCourt.isA(person, kind) ? person : NONE;
    }

    public int sign(int sign) {
        return theCourt.isSign(sign) ? theCourt.amountOf(sign) : UNKNOWN;
    }

    public int forbid(int sign, boolean is) {
        if (!theCourt.isSign(sign)) {
            return UNKNOWN;
        }
        int was = now.isForbidden(sign) ? 1 : 0;
        now.setForbidden(sign, is);
        return was;
    }

    public int tell(int from, int to, int sign) {
        if (!theCourt.isPair(from, to) || !theCourt.isSign(sign)) {
            return UNKNOWN;
        }
        if (!now.canTell(from, to, sign)) {
            return STATE;
        }
        return now.pass(theCourt, from, to, sign);
    }

    // ---- what would be

    public int plan(int king, int what) {
        if (!theCourt.isPerson(king)) {
            return UNKNOWN;
        }
        if (what != 0 && (what < 10 || what >= 10 + MOST_PLAN_WORDS)) {
            return OUTSIDE;
        }
        if (!theCourt.isA(king, KING) || now.isHanged(king) || plansDone >= MOST_PLANS) {
            return STATE;
        }
        plansDone++;
        int few = fewestWords(king);
        if (what == 0) {
            return few;
        }
        int at = what - 10;
        return at >= 0 && at < few && at < planWords.length ? planWords[at] : NONE;
    }

    public int safe(int from, int to) {
        if (!theCourt.isPair(from, to)) {
            return UNKNOWN;
        }
        if (now.isHanged(from) || now.isHanged(to)) {
            return STATE;
        }
        return now.unpunished(theCourt, from, to);
    }

    // ---- what is asked

    public int ask(int person, int signs, boolean infers) {
        if (!theCourt.isPerson(person)) {
            return UNKNOWN;
        }
        if (signs < 0 || signs > ALL_SIGNS) {
            return OUTSIDE;
        }
        if (now.askedCount >= MOST_ASKED) {
            return FULL;
        }
        now.addAsked(person, signs, infers);
        return now.askedCount;
    }

    public int forget() {
        int was = now.askedCount;
        now.askedCount = 0;
        return was;
    }

    public int tells(int sign) {
        return theCourt.isSign(sign) ? now.possibleAmounts(theCourt, sign) : UNKNOWN;
    }

    public int next(int sign) {
        if (!theCourt.isSign(sign)) {
            return UNKNOWN;
        }
        int possible = now.possibleAmounts(theCourt, sign);
        return possible == 0 ? NONE : bestQuestion(sign, possible);
    }

    public int audiences(int times, int seed, int what) {
        if (times < 1 || times > MOST_TIMES || seed < 0 || what < 0 || what > 2) {
            return OUTSIDE;
        }
        if (theCourt.people == 0) {
            return STATE;
        }
        trial.copy(now);
        int last = holdAudiences(times, seed);
        switch (what) {
            case 0: return Integer.bitCount(trial.hanged);
            case 1: return trial.howManyInfer(theCourt);
            default: return last;
        }
    }

    // ---- what is told of all

    public int image() {
        if (theCourt.people == 0) {
            return STATE;
        }
        kept.copy(now);
        isKept = true;
        return now.words;
    }

    public int restore() {
        if (!isKept) {
            return STATE;
        }
        now.copy(kept);
        return now.words;
    }

    public int count(int what) {
        switch (what) {
            case 0: return theCourt.people;
            case 1: return now.howManyInfer(theCourt);
            case 2: return Integer.bitCount(now.hanged);
            case 3: return Integer.bitCount(now.said);
            case 4: return Integer.bitCount(now.forbidden);
            case 5: return now.words;
            case 6: return now.askedCount;
            case 7: return thePage.length;
            case 8: return courtsRead;
            case 9: return plansDone;
            default: return OUTSIDE;
        }
    }

    public long digest() {
        long h = 991;
        for (int person = 0; person < theCourt.people; person++) {
            h = digestPerson(h, person);
        }
        if (theCourt.people > 0) {
            for (int sign = 0; sign < SIGNS; sign++) {
                h = digestSign(h, sign);
            }
        }
        for (int place = 0; place < thePage.length; place++) {
            h = 31 * h + thePage.at(place);
        }
        for (int what = 0; what < COUNTS; what++) {
            h = 31 * h + count(what);
        }
        return h;
    }

    private long digestPerson(long before, int person) {
        long h = before;
        for (int what = 0; what < ABOUTS; what++) {
            h = 31 * h + about(person, what);
        }
        for (int other = 0; other < theCourt.people; other++) {
            if (other != person) {
                h = 31 * h + now.unpunished(theCourt, person, other);
            }
        }
        return h;
    }

    private long digestSign(long before, int sign) {
        long h = 31 * before + sign(sign);
        h = 31 * h + (now.isForbidden(sign) ? 1 : 0);
        h = 31 * h + tells(sign);
        return 31 * h + next(sign);
    }

    /** How few words make that king INFER it, with nobody HANGED; these stand in planWords then. */
    private int fewestWords(int king) {
        trial.copy(now);
        for (int many = 0; many <= MOST_PLAN_WORDS; many++) {
            if (findsWords(theCourt, trial, planWords, king, 0, many)) {
                return many;
            }
        }
        return NONE;
    }

    /** Whether so many words, from the one numbered at, make that king INFER it: the first such by numbers. */
    private static boolean findsWords(Court court, Scene scene, int[] words, int king, int at, int many) {
        if (at < 0 || at >= many || at >= words.length) {
            return court.infers(king, scene.knownTo(king));
        }
        // Fewer words were tried in vain, so it is the last one that the king must hear.
        boolean isLast = at == many - 1;
        for (int word = 0; word < 16 * court.people; word++) {
            int from = word >> 4;
            int to = word >> 2 & 3;
            int sign = word & 3;
            if (isLast && to != king || !court.isPerson(to) || !scene.canTell(from, to, sign)
                    || scene.hangsTeller(court, from, to, sign)) {
                continue;
            }
            words[at] = word;
            int before = scene.known;
            scene.learn(to, sign);
            boolean found = findsWords(court, scene, words, king, at + 1, many);
            scene.known = before;
            if (found) {
                return true;
            }
        }
        return false;
    }

    private int bestQuestion(int sign, int possible) {
        int best = NONE;
        int fewest = MOST_AMOUNT + 1;
        for (int question = 0; question < 16 * theCourt.people; question++) {
            if ((question & 1 << sign) == 0) {
                continue;
            }
            int inferring = theCourt.inferringAmounts(question >> 4, question & ALL_SIGNS, sign);
            int left = Math.max(Integer.bitCount(possible & inferring), Integer.bitCount(possible & ~inferring));
            if (left < fewest) {
                fewest = left;
                best = question;
            }
        }
        return best;
    }

    /** Tells by DRAWS in the trial scene: the SEED then. */
    private int holdAudiences(int times, int firstSeed) {
        int seed = firstSeed;
        for (int time = 0; time < times; time++) {
            seed = nextSeed(seed);
            int from = drawn(seed, theCourt.people);
            seed = nextSeed(seed);
            int to = drawn(seed, theCourt.people);
            seed = nextSeed(seed);
            int sign = drawn(seed, SIGNS);
            if (trial.canTell(from, to, sign)) {
                trial.pass(theCourt, from, to, sign);
            }
        }
        return seed;
    }

    private static int nextSeed(int seed) {
        return (int) ((1103515245L * seed + 12345L) % 2147483648L);
    }

    private static int drawn(int seed, int of) {
        return of > 0 ? seed / 65536 % of : 0;
    }

    /** Four numbers of 0 to 15 in one int, one for each person or each SIGN. */
    private static final class Four {
        static int get(int four, int place) {
            return four >> 4 * place & 15;
        }

        static int put(int four, int place, int number) {
            return four & ~(15 << 4 * place) | (number & 15) << 4 * place;
        }
    }

    /** THE PAGE: the letters that may become a COURT. */
    private static final class Page {
        private final int[] codes = new int[PAGE_SIZE];
        private int length;

        void add(int code) {
            if (length >= 0 && length < codes.length) {
                codes[length] = code;
                length++;
            }
        }

        int at(int place) {
            return place >= 0 && place < length && place < codes.length ? codes[place] : 0;
        }

        int digitAt(int place) {
            return at(place) - '0';
        }

        int kindAt(int place) {
            return KIND_LETTERS.indexOf((char) at(place));
        }

        int firstFault() {
            int end = NONE;
            for (int place = 0; place < length; place++) {
                boolean fits = end == NONE ? fitsPeople(place) : fitsAmounts(place, end);
                if (!fits) {
                    return place;
                }
                if (at(place) == ';') {
                    end = place;
                }
            }
            return length;
        }

        /** Whether it has no fault and ends by ";" and four digits. */
        boolean isCourt() {
            return at(length - TAIL) == ';' && firstFault() == length;
        }

        private boolean fitsPeople(int place) {
            switch (place % 4) {
                case 0: return kindAt(place) != NONE;
                case 1: return isDigit(place, 1, 9);
                case 2: return isDigit(place, 0, SIGNS);
                default: return at(place) == ',' && place < LAST_END || at(place) == ';' && place >= FIRST_END;
            }
        }

        private boolean fitsAmounts(int place, int end) {
            return place - end < TAIL && isDigit(place, 1, MOST_AMOUNT);
        }

        private boolean isDigit(int place, int least, int most) {
            return digitAt(place) >= least && digitAt(place) <= most;
        }
    }

    /** A COURT as it was read; people is 0 while there is none. */
    private static final class Court {
        private int people;
        private int kinds;
        private int needs;
        private int firsts;
        private int enoughs;
        private int amounts;
        private final int[] sums = new int[ALL_SIGNS + 1];

        /** Reads a page that is a COURT. */
        void read(Page page) {
            people = (page.length - TAIL + 1) / 4;
            for (int person = 0; person < people; person++) {
                readPerson(person, page.kindAt(4 * person), page.digitAt(4 * person + 1), page.digitAt(4 * person + 2));
            }
            for (int sign = 0; sign < SIGNS; sign++) {
                amounts = Four.put(amounts, sign, page.digitAt(4 * people + sign));
            }
            for (int signs = 0; signs < sums.length; signs++) {
                sums[signs] = sumOf(signs);
            }
        }

        private void readPerson(int person, int kind, int need, int first) {
            kinds = Four.put(kinds, person, kind);
            needs = Four.put(needs, person, need);
            firsts = Four.put(firsts, person, first);
            enoughs = Four.put(enoughs, person, enoughOf(kind, need));
        }

        /** How much the SIGNS that one of that kind and NEED knows must TELL together: 1 to 11. */
        private static int enoughOf(int kind, int need) {
            switch (kind) {
                case CHILD: return (need + 1) / 2;
                case PRINCE: return need + 2;
                default: return need;
            }
        }

        private int sumOf(int signs) {
            int sum = 0;
            for (int sign = 0; sign < SIGNS; sign++) {
                if ((signs & 1 << sign) != 0) {
                    sum += amountOf(sign);
                }
            }
            return sum;
        }

        boolean isPerson(int person) {
            return person >= 0 && person < people;
        }

        boolean isPair(int one, int other) {
            return isPerson(one) && isPerson(other) && one != other;
        }

        boolean isSign(int sign) {
            return people > 0 && sign >= 0 && sign < SIGNS;
        }

        int kindOf(int person) {
            return Four.get(kinds, person);
        }

        int needOf(int person) {
            return Four.get(needs, person);
        }

        int amountOf(int sign) {
            return Four.get(amounts, sign);
        }

        /** The SIGN that one knows at first, as a bit. */
        int firstKnownTo(int person) {
            return 1 << Four.get(firsts, person) & ALL_SIGNS;
        }

        boolean isA(int person, int kind) {
            int own = kindOf(person);
            return kind == MAN || kind == own || kind == KING && own == PRINCE;
        }

        /** How much these SIGNS TELL together. */
        int together(int signs) {
            return signs >= 0 && signs < sums.length ? sums[signs] : 0;
        }

        boolean infers(int person, int signs) {
            return together(signs) >= Four.get(enoughs, person);
        }

        /** How much the sign would have to TELL, as bits, so that this one would INFER it by these signs. */
        int inferringAmounts(int person, int signs, int sign) {
            int others = signs & ~(1 << sign);
            int wanting = Four.get(enoughs, person) - together(others);
            if (others == signs) {
                return wanting <= 0 ? ALL_AMOUNTS : 0;
            }
            int tooLittle = Math.max(0, Math.min(MOST_AMOUNT, wanting - 1));
            return ALL_AMOUNTS & -1 << tooLittle;
        }
    }

    /** What changes in a COURT: all that an IMAGE keeps. Of people and SIGNS it holds bits. */
    private static final class Scene {
        private int known;
        private int hanged;
        private int said;
        private int forbidden;
        private int words;
        private final int[] wordsBy = new int[MOST_PEOPLE];
        private final int[] asked = new int[MOST_ASKED];
        private int askedCount;

        /** As it is when that COURT has just been read. */
        void open(Court court) {
            known = 0;
            hanged = 0;
            said = 0;
            forbidden = 0;
            words = 0;
            askedCount = 0;
            for (int person = 0; person < wordsBy.length; person++) {
                wordsBy[person] = 0;
            }
            for (int person = 0; person < court.people; person++) {
                known = Four.put(known, person, court.firstKnownTo(person));
            }
        }

        void copy(Scene other) {
            known = other.known;
            hanged = other.hanged;
            said = other.said;
            forbidden = other.forbidden;
            words = other.words;
            askedCount = other.askedCount;
            for (int person = 0; person < wordsBy.length; person++) {
                wordsBy[person] = other.wordsOf(person);
            }
            for (int at = 0; at < asked.length; at++) {
                asked[at] = other.askedAt(at);
            }
        }

        int knownTo(int person) {
            return Four.get(known, person);
        }

        boolean knows(int person, int sign) {
            return (knownTo(person) & 1 << sign) != 0;
        }

        boolean isHanged(int person) {
            return (hanged & 1 << person) != 0;
        }

        boolean hasSaid(int person) {
            return (said & 1 << person) != 0;
        }

        boolean isForbidden(int sign) {
            return (forbidden & 1 << sign) != 0;
        }

        void setForbidden(int sign, boolean is) {
            forbidden = is ? forbidden | 1 << sign : forbidden & ~(1 << sign);
        }

        int wordsOf(int person) {
            return person >= 0 && person < wordsBy.length ? wordsBy[person] : 0;
        }

        int howManyInfer(Court court) {
            int many = 0;
            for (int person = 0; person < court.people; person++) {
                if (court.infers(person, knownTo(person))) {
                    many++;
                }
            }
            return many;
        }

        void learn(int person, int sign) {
            known = Four.put(known, person, knownTo(person) | 1 << sign);
        }

        boolean canTell(int from, int to, int sign) {
            return from != to && knows(from, sign) && !knows(to, sign) && !isHanged(from) && !isHanged(to);
        }

        /** Whether the sign, not known to that one yet, is what makes him INFER it. */
        boolean makesInfer(Court court, int to, int sign) {
            int signs = knownTo(to);
            return !court.infers(to, signs) && court.infers(to, signs | 1 << sign);
        }

        boolean hangsTeller(Court court, int from, int to, int sign) {
            if (court.isA(from, CHILD)) {
                return false;
            }
            if (isForbidden(sign) && !court.isA(from, MINISTER)) {
                return true;
            }
            return !court.isA(to, KING) && makesInfer(court, to, sign);
        }

        /** SAFE, as bits; 0, if one of both is HANGED. */
        int unpunished(Court court, int from, int to) {
            int signs = 0;
            for (int sign = 0; sign < SIGNS; sign++) {
                if (canTell(from, to, sign) && !hangsTeller(court, from, to, sign)) {
                    signs |= 1 << sign;
                }
            }
            return signs;
        }

        /** A word that can be told is told: 1 if that one INFERS it by this, 2 if the teller is HANGED, 4 if SAID. */
        int pass(Court court, int from, int to, int sign) {
            boolean isInferred = makesInfer(court, to, sign);
            boolean isHanging = hangsTeller(court, from, to, sign);
            boolean isSaid = isInferred && court.isA(to, KING);
            learn(to, sign);
            words++;
            if (from >= 0 && from < wordsBy.length) {
                wordsBy[from]++;
            }
            if (isHanging) {
                hanged |= 1 << from;
            }
            if (isSaid) {
                said |= 1 << to;
            }
            return (isInferred ? 1 : 0) + (isHanging ? 2 : 0) + (isSaid ? 4 : 0);
        }

        /** Keeps a question as 16 times who, and the signs, and 64 if he would INFER it. */
        void addAsked(int person, int signs, boolean infers) {
            if (askedCount >= 0 && askedCount < asked.length) {
                asked[askedCount] = 16 * person + signs + (infers ? 64 : 0);
                askedCount++;
            }
        }

        int askedAt(int at) {
            return at >= 0 && at < asked.length ? asked[at] : 0;
        }

        /** TELLS: how much the sign can TELL, as bits, so that all that is ASKED is so. */
        int possibleAmounts(Court court, int sign) {
            int possible = ALL_AMOUNTS;
            for (int at = 0; at < askedCount; at++) {
                int question = askedAt(at);
                int inferring = court.inferringAmounts(question >> 4 & 3, question & ALL_SIGNS, sign);
                possible &= (question & 64) != 0 ? inferring : ~inferring;
            }
            return possible;
        }
    }
}
