import java.util.Random;

/** Runs of drawn calls, by fixed seeds, on the class and on its plain likeness. */
public final class RandomRuns {
    private static final int RUNS = 1500;
    private static final int CALLS = 512;
    private static final int[] ODD = {-1, 4, 5, 8, 9, 10, 13, 16, 17, 34, 127, 255, 1 << 16, Integer.MIN_VALUE,
        Integer.MAX_VALUE, Integer.MIN_VALUE + 1, -101};
    private static final Check check = new Check();

    private final Random random;
    private final UnsaidHorse real = new UnsaidHorse();
    private final PlainHorse plain = new PlainHorse();
    private final String run;

    private RandomRuns(int seed) {
        random = new Random(seed);
        run = "run " + seed + ", call ";
    }

    public static void main(String[] args) {
        for (int seed = 1; seed <= RUNS; seed++) {
            new RandomRuns(seed).go();
        }
        check.end();
    }

    private void go() {
        int done = 0;
        if (random.nextInt(8) != 0) {
            done += typeCourt(done);
        }
        while (done < CALLS) {
            int kind = random.nextInt(100);
            if (kind == 0) {
                done += typeCourt(done);
            } else {
                call(done, kind);
                done++;
            }
            if (done % 3 == 0) {
                check.due(run + done + " digest", real.digest(), plain.digest());
            }
        }
    }

    /** A number of 0 to most, seldom another. */
    private int number(int most) {
        return random.nextInt(40) == 0 ? ODD[random.nextInt(ODD.length)] : random.nextInt(most + 1);
    }

    private int typeCourt(int done) {
        String text = courtText();
        int place = 0;
        real.blank();
        plain.blank();
        for (; place < text.length() && done + place < CALLS; place++) {
            int code = random.nextInt(200) == 0 ? random.nextInt(140) : text.charAt(place);
            check.due(run + (done + place) + " letter", real.letter(code), plain.letter(code));
            check.due(run + (done + place) + " fault", real.fault(), plain.fault());
        }
        check.due(run + done + " court", real.court(), plain.court());
        return place + 2;
    }

    private String courtText() {
        StringBuilder text = new StringBuilder();
        int people = 2 + random.nextInt(3);
        int most = 1 + random.nextInt(9);
        for (int person = 0; person < people; person++) {
            text.append(person == 0 ? "" : ",").append("mkcnq".charAt(random.nextInt(5)));
            text.append(1 + random.nextInt(9)).append(random.nextInt(5));
        }
        text.append(';');
        for (int sign = 0; sign < 4; sign++) {
            text.append(1 + random.nextInt(most));
        }
        return text.toString();
    }

    private void call(int done, int kind) {
        String at = run + done + " ";
        int one = number(3);
        int other = number(3);
        int sign = number(3);
        boolean is = random.nextBoolean();
        if (kind < 35) {
            check.due(at + "tell", real.tell(one, other, sign), plain.tell(one, other, sign));
        } else if (kind < 42) {
            check.due(at + "forbid", real.forbid(sign, kind < 37), plain.forbid(sign, kind < 37));
        } else if (kind < 52) {
            int signs = number(15);
            check.due(at + "ask", real.ask(one, signs, is), plain.ask(one, signs, is));
        } else if (kind < 55) {
            check.due(at + "forget", real.forget(), plain.forget());
        } else if (kind < 59) {
            int what = is ? 0 : number(13);
            check.due(at + "plan", real.plan(one, what), plain.plan(one, what));
        } else if (kind < 62) {
            check.due(at + "image", real.image(), plain.image());
        } else if (kind < 66) {
            check.due(at + "restore", real.restore(), plain.restore());
        } else if (kind < 71) {
            int times = number(61);
            int seed = random.nextInt();
            seed = is && seed < 0 ? ~seed : seed;
            check.due(at + "audiences", real.audiences(times, seed, other), plain.audiences(times, seed, other));
        } else {
            look(at, kind, one, other, sign);
        }
    }

    private void look(String at, int kind, int one, int other, int sign) {
        if (kind < 75) {
            int what = number(7);
            check.due(at + "about", real.about(one, what), plain.about(one, what));
        } else if (kind < 78) {
            int as = number(4);
            check.due(at + "as", real.as(one, as), plain.as(one, as));
        } else if (kind < 80) {
            check.due(at + "sign", real.sign(sign), plain.sign(sign));
        } else if (kind < 84) {
            check.due(at + "safe", real.safe(one, other), plain.safe(one, other));
        } else if (kind < 88) {
            check.due(at + "tells", real.tells(sign), plain.tells(sign));
        } else if (kind < 92) {
            check.due(at + "next", real.next(sign), plain.next(sign));
        } else if (kind < 95) {
            int what = number(9);
            check.due(at + "count", real.count(what), plain.count(what));
        } else if (kind < 97) {
            int code = number(128);
            check.due(at + "letter", real.letter(code), plain.letter(code));
        } else if (kind < 98) {
            check.due(at + "blank", real.blank(), plain.blank());
        } else {
            check.due(at + "court", real.court(), plain.court());
        }
    }
}
