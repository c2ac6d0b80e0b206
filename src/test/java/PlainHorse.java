import java.util.ArrayList;
import java.util.HashSet;
import java.util.List;
import java.util.Set;

/** The document once more, in the plainest form that came to mind, to compare with. */
final class PlainHorse {
    private static final int NONE = -1, UNKNOWN = -101, OUTSIDE = -102, STATE = -103, FULL = -104;

    static class Man {
        int number;
        int need;
        Set<Integer> known = new HashSet<>();
        boolean hanged;
        boolean said;
        int told;

        int enough() {
            return need;
        }
    }

    static class King extends Man { }

    static class Child extends Man {
        @Override int enough() {
            return need % 2 == 0 ? need / 2 : need / 2 + 1;
        }
    }

    static class Minister extends Man { }

    static class Prince extends King {
        @Override int enough() {
            return need + 2;
        }
    }

    record Question(int person, int signs, boolean infers) { }

    static final class Hall {
        List<Man> people = new ArrayList<>();
        Set<Integer> forbidden = new HashSet<>();
        List<Question> asked = new ArrayList<>();
        int words;

        Hall copy() {
            Hall copy = new Hall();
            for (Man man : people) {
                Man other = newMan(man);
                other.number = man.number;
                other.need = man.need;
                other.known = new HashSet<>(man.known);
                other.hanged = man.hanged;
                other.said = man.said;
                other.told = man.told;
                copy.people.add(other);
            }
            copy.forbidden = new HashSet<>(forbidden);
            copy.asked = new ArrayList<>(asked);
            copy.words = words;
            return copy;
        }
    }

    private String page = "";
    private Hall hall;
    private Hall kept;
    private int[] amounts = new int[4];
    private int read;
    private int planned;

    private static Man newMan(Man like) {
        return like instanceof Prince ? new Prince() : like instanceof King ? new King()
                : like instanceof Child ? new Child() : like instanceof Minister ? new Minister() : new Man();
    }

    private static Man manOf(char letter) {
        return letter == 'q' ? new Prince() : letter == 'k' ? new King() : letter == 'c' ? new Child()
                : letter == 'n' ? new Minister() : new Man();
    }

    private boolean isPerson(int person) {
        return hall != null && person >= 0 && person < hall.people.size();
    }

    private boolean isSign(int sign) {
        return hall != null && sign >= 0 && sign <= 3;
    }

    private Man man(int person) {
        return hall.people.get(person);
    }

    private int together(Set<Integer> signs, int[] by) {
        int sum = 0;
        for (int sign : signs) {
            sum += by[sign];
        }
        return sum;
    }

    private boolean infers(Man man) {
        return together(man.known, amounts) >= man.enough();
    }

    private static Set<Integer> setOf(int bits) {
        Set<Integer> set = new HashSet<>();
        for (int bit = 0; bit < 4; bit++) {
            if ((bits >> bit) % 2 == 1) {
                set.add(bit);
            }
        }
        return set;
    }

    private static int bitsOf(Set<Integer> set) {
        int bits = 0;
        for (int one : set) {
            bits += 1 << one;
        }
        return bits;
    }

    int letter(int code) {
        if (code < 32 || code > 126) {
            return OUTSIDE;
        }
        if (page.length() == 22) {
            return FULL;
        }
        page += (char) code;
        return page.length();
    }

    int blank() {
        int had = page.length();
        page = "";
        return had;
    }

    /** The shapes of all courts, a class of letters for each place. */
    private static final String[] SHAPES = {"KNS,KNS;NNNN", "KNS,KNS,KNS;NNNN", "KNS,KNS,KNS,KNS;NNNN"};

    private static boolean fits(char shape, char letter) {
        switch (shape) {
            case 'K': return "mkcnq".indexOf(letter) >= 0;
            case 'N': return letter >= '1' && letter <= '9';
            case 'S': return letter >= '0' && letter <= '4';
            default: return letter == shape;
        }
    }

    int fault() {
        int furthest = 0;
        for (String shape : SHAPES) {
            int place = 0;
            while (place < page.length() && place < shape.length() && fits(shape.charAt(place), page.charAt(place))) {
                place++;
            }
            furthest = Math.max(furthest, place);
        }
        return furthest;
    }

    int court() {
        if (!page.matches("[mkcnq][1-9][0-4](,[mkcnq][1-9][0-4]){1,3};[1-9]{4}")) {
            return STATE;
        }
        hall = new Hall();
        String[] parts = page.split(";");
        for (String text : parts[0].split(",")) {
            Man man = manOf(text.charAt(0));
            man.number = hall.people.size();
            man.need = text.charAt(1) - '0';
            if (text.charAt(2) != '4') {
                man.known.add(text.charAt(2) - '0');
            }
            hall.people.add(man);
        }
        for (int sign = 0; sign < 4; sign++) {
            amounts[sign] = parts[1].charAt(sign) - '0';
        }
        kept = null;
        read++;
        page = "";
        return hall.people.size();
    }

    int about(int person, int what) {
        if (!isPerson(person)) {
            return UNKNOWN;
        }
        if (what < 0 || what > 7) {
            return OUTSIDE;
        }
        Man man = man(person);
        int kind = man instanceof Prince ? 4 : man instanceof Minister ? 3 : man instanceof Child ? 2
                : man instanceof King ? 1 : 0;
        int[] all = {kind, man.need, bitsOf(man.known), together(man.known, amounts), infers(man) ? 1 : 0,
            man.hanged ? 1 : 0, man.said ? 1 : 0, man.told};
        return all[what];
    }

    int as(int person, int kind) {
        if (!isPerson(person)) {
            return UNKNOWN;
        }
        if (kind < 0 || kind > 4) {
            return OUTSIDE;
        }
        Class<?>[] kinds = {Man.class, King.class, Child.class, Minister.class, Prince.class};
        return kinds[kind].isInstance(man(person)) ? person : NONE;
    }

    int sign(int sign) {
        return isSign(sign) ? amounts[sign] : UNKNOWN;
    }

    int forbid(int sign, boolean is) {
        if (!isSign(sign)) {
            return UNKNOWN;
        }
        boolean was = is ? !hall.forbidden.add(sign) : hall.forbidden.remove(sign);
        return was ? 1 : 0;
    }

    int tell(int from, int to, int sign) {
        if (!isPerson(from) || !isPerson(to) || !isSign(sign) || from == to) {
            return UNKNOWN;
        }
        return tellIn(hall, from, to, sign);
    }

    private int tellIn(Hall in, int from, int to, int sign) {
        Man teller = in.people.get(from);
        Man hearer = in.people.get(to);
        if (from == to || teller.hanged || hearer.hanged || !teller.known.contains(sign)
                || hearer.known.contains(sign)) {
            return STATE;
        }
        boolean before = infers(hearer);
        hearer.known.add(sign);
        teller.told++;
        in.words++;
        if (in.forbidden.contains(sign) && !(teller instanceof Child) && !(teller instanceof Minister)) {
            teller.hanged = true;
        }
        int answer = 0;
        if (!before && infers(hearer)) {
            answer = 1;
            if (hearer instanceof King) {
                hearer.said = true;
                answer += 4;
            } else if (!(teller instanceof Child)) {
                teller.hanged = true;
            }
        }
        return teller.hanged ? answer + 2 : answer;
    }

    int plan(int king, int what) {
        if (!isPerson(king)) {
            return UNKNOWN;
        }
        if (what != 0 && what != 10 && what != 11 && what != 12) {
            return OUTSIDE;
        }
        if (!(man(king) instanceof King) || man(king).hanged || planned == 12) {
            return STATE;
        }
        planned++;
        for (int many = 0; many <= 3; many++) {
            List<Integer> words = new ArrayList<>();
            if (search(hall, king, many, words)) {
                return what == 0 ? many : what - 10 < many ? words.get(what - 10) : NONE;
            }
        }
        return NONE;
    }

    /** All words of all, each tried in a copy. */
    private boolean search(Hall in, int king, int many, List<Integer> words) {
        if (many == 0) {
            return infers(in.people.get(king));
        }
        int people = in.people.size();
        for (int from = 0; from < people; from++) {
            for (int to = 0; to < people; to++) {
                for (int sign = 0; sign < 4; sign++) {
                    Hall copy = in.copy();
                    int answer = tellIn(copy, from, to, sign);
                    if (answer < 0 || (answer & 2) != 0) {
                        continue;
                    }
                    words.add(16 * from + 4 * to + sign);
                    if (search(copy, king, many - 1, words)) {
                        return true;
                    }
                    words.remove(words.size() - 1);
                }
            }
        }
        return false;
    }

    int safe(int from, int to) {
        if (!isPerson(from) || !isPerson(to) || from == to) {
            return UNKNOWN;
        }
        if (man(from).hanged || man(to).hanged) {
            return STATE;
        }
        int bits = 0;
        for (int sign = 0; sign < 4; sign++) {
            Hall copy = hall.copy();
            int answer = tellIn(copy, from, to, sign);
            if (answer >= 0 && !copy.people.get(from).hanged) {
                bits += 1 << sign;
            }
        }
        return bits;
    }

    int ask(int person, int signs, boolean infers) {
        if (!isPerson(person)) {
            return UNKNOWN;
        }
        if (signs < 0 || signs > 15) {
            return OUTSIDE;
        }
        if (hall.asked.size() == 6) {
            return FULL;
        }
        hall.asked.add(new Question(person, signs, infers));
        return hall.asked.size();
    }

    int forget() {
        if (hall == null) {
            return 0;
        }
        int was = hall.asked.size();
        hall.asked.clear();
        return was;
    }

    private boolean wouldInfer(int person, int signs, int sign, int amount) {
        int[] by = amounts.clone();
        by[sign] = amount;
        return together(setOf(signs), by) >= man(person).enough();
    }

    private List<Integer> open(int sign) {
        List<Integer> open = new ArrayList<>();
        for (int amount = 1; amount <= 9; amount++) {
            boolean all = true;
            for (Question question : hall.asked) {
                all &= wouldInfer(question.person, question.signs, sign, amount) == question.infers;
            }
            if (all) {
                open.add(amount);
            }
        }
        return open;
    }

    int tells(int sign) {
        if (!isSign(sign)) {
            return UNKNOWN;
        }
        int bits = 0;
        for (int amount : open(sign)) {
            bits += 1 << amount - 1;
        }
        return bits;
    }

    int next(int sign) {
        if (!isSign(sign)) {
            return UNKNOWN;
        }
        List<Integer> open = open(sign);
        int best = NONE;
        int least = 100;
        for (int person = 0; person < hall.people.size() && !open.isEmpty(); person++) {
            for (int signs = 0; signs < 16; signs++) {
                if (setOf(signs).contains(sign)) {
                    int yes = 0;
                    int no = 0;
                    for (int amount : open) {
                        if (wouldInfer(person, signs, sign, amount)) {
                            yes++;
                        } else {
                            no++;
                        }
                    }
                    if (Math.max(yes, no) < least) {
                        least = Math.max(yes, no);
                        best = 16 * person + signs;
                    }
                }
            }
        }
        return best;
    }

    int audiences(int times, int seed, int what) {
        if (times < 1 || times > 60 || seed < 0 || what < 0 || what > 2) {
            return OUTSIDE;
        }
        if (hall == null) {
            return STATE;
        }
        Hall copy = hall.copy();
        long drawn = seed;
        int people = copy.people.size();
        for (int time = 0; time < times; time++) {
            drawn = (drawn * 1103515245L + 12345L) % (1L << 31);
            int from = (int) (drawn / 65536 % people);
            drawn = (drawn * 1103515245L + 12345L) % (1L << 31);
            int to = (int) (drawn / 65536 % people);
            drawn = (drawn * 1103515245L + 12345L) % (1L << 31);
            tellIn(copy, from, to, (int) (drawn / 65536 % 4));
        }
        if (what == 2) {
            return (int) drawn;
        }
        return (int) copy.people.stream().filter(man -> what == 0 ? man.hanged : infers(man)).count();
    }

    int image() {
        if (hall == null) {
            return STATE;
        }
        kept = hall.copy();
        return hall.words;
    }

    int restore() {
        if (kept == null) {
            return STATE;
        }
        hall = kept.copy();
        return hall.words;
    }

    int count(int what) {
        if (what < 0 || what > 9) {
            return OUTSIDE;
        }
        Hall in = hall == null ? new Hall() : hall;
        int[] all = {in.people.size(), (int) in.people.stream().filter(this::infers).count(),
            (int) in.people.stream().filter(man -> man.hanged).count(),
            (int) in.people.stream().filter(man -> man.said).count(), in.forbidden.size(), in.words, in.asked.size(),
            page.length(), read, planned};
        return all[what];
    }

    long digest() {
        List<Long> all = new ArrayList<>();
        int people = hall == null ? 0 : hall.people.size();
        for (int person = 0; person < people; person++) {
            for (int what = 0; what < 8; what++) {
                all.add((long) about(person, what));
            }
            for (int other = 0; other < people; other++) {
                if (other != person) {
                    int safe = safe(person, other);
                    all.add(safe == STATE ? 0L : safe);
                }
            }
        }
        for (int sign = 0; sign < 4 && hall != null; sign++) {
            all.add((long) amounts[sign]);
            all.add(hall.forbidden.contains(sign) ? 1L : 0L);
            all.add((long) tells(sign));
            all.add((long) next(sign));
        }
        for (char letter : page.toCharArray()) {
            all.add((long) letter);
        }
        for (int what = 0; what < 10; what++) {
            all.add((long) count(what));
        }
        long h = 991;
        for (long one : all) {
            h = 31 * h + one;
        }
        return h;
    }
}
