import java.util.Random;

/** Random runs of calls, each held against the Oracle; every answer, and the digest now and then. */
public final class OracleTest {
    private static final int[] WILD = {Integer.MIN_VALUE, Integer.MIN_VALUE + 1, -1000, -3, -2, -1, 0, 1, 2,
        3, 4, 5, 6, 7, 8, 9, 29, 30, 59, 60, 61, 127, 128, 255, 256, 511, Integer.MAX_VALUE - 1,
        Integer.MAX_VALUE};
    private static final String[] TEXTS = {"banana kalamazoo", "thirteen men dine", "sai paa aurora",
        "strengths a ba", "a a a a a a a a a a a a a a a a a a a a a a a a a a a a a aa",
        "aeaeaeaeaeaeaeaeaeaeaeaeaeaeaeaeaeaeaeaeaeaeaeaeaeaeaeaeaeae", "mississippi tennessee bamboo",
        "baba baba baba baba baba baba baba baba baba baba baba babab", "aaa eii ooo uiu iuui aii",
        "an on in un en ban don fin gun hen", "a aba ababa abababa ababababa abababababa", "katanta tanta ta",
        "bcd", "a", "", "a ", " a", "a  a", "Aa", "a bcd a", "a bcd"};

    private final Random random;
    private final Due due;
    private BeatWords x = new BeatWords();
    private Oracle y = new Oracle();
    private StringBuilder run = new StringBuilder();

    private OracleTest(long seed, Due due) {
        random = new Random(seed);
        this.due = due;
    }

    public static void main(String[] args) {
        int objects = args.length > 0 ? Integer.parseInt(args[0]) : 220;
        Due due = new Due();
        due.promise("oracle");
        OracleTest test = new OracleTest(20261119L, due);
        for (int k = 0; k < objects && due.wrong() == 0; k++) {
            test.object(k);
        }
        due.end();
    }

    private void object(int number) {
        x = new BeatWords();
        y = new Oracle();
        run = new StringBuilder();
        int calls = 0;
        int wildness = number % 3 == 0 ? 4 : 40;
        while (calls < 512 && due.wrong() == 0) {
            if (random.nextInt(60) == 0) {
                String text = random.nextInt(3) == 0 ? randomText() : TEXTS[random.nextInt(TEXTS.length)];
                if (calls + text.length() + 2 > 512) {
                    break;
                }
                calls += 1 + text.length();
                one(1, new int[5]);
                for (int i = 0; i < text.length(); i++) {
                    one(0, new int[] {text.charAt(i), 0, 0, 0, 0});
                }
            }
            int act = act();
            one(act, random.nextInt(wildness) == 0 ? wildNumbers() : numbers(act));
            calls++;
        }
    }

    private String randomText() {
        String letters = random.nextBoolean() ? "aeioubcdt" : "aaiut";
        StringBuilder text = new StringBuilder();
        int length = random.nextInt(61);
        while (text.length() < length) {
            int size = 1 + random.nextInt(9);
            for (int i = 0; i < size && text.length() < length; i++) {
                text.append(letters.charAt(random.nextInt(letters.length())));
            }
            if (text.length() < length - 1 && random.nextInt(4) != 0) {
                text.append("aeiou".charAt(random.nextInt(5))).append(' ');
            }
        }
        if (text.length() > 60) {
            text.setLength(60);
        }
        return text.toString();
    }

    private int act() {
        int n = random.nextInt(100);
        if (n < 25) {
            return 4;
        }
        if (n < 35) {
            return 12;
        }
        int act = random.nextInt(28);
        if (act <= 2 && random.nextInt(3) != 0) {
            return 6;
        }
        return act >= 26 && random.nextInt(4) != 0 ? 5 : act;
    }

    private int pick(int n) {
        return random.nextInt(n);
    }

    private int[] wildNumbers() {
        int[] numbers = new int[5];
        for (int i = 0; i < 5; i++) {
            numbers[i] = WILD[random.nextInt(WILD.length)];
        }
        return numbers;
    }

    /** Numbers that an act would mostly take. */
    private int[] numbers(int act) {
        int syllables = Math.max(1, y.count(2)) + 1;
        int words = Math.max(1, y.count(1)) + 1;
        switch (act) {
            case 0:
                return new int[] {" abcdeiou".charAt(pick(9)), 0, 0, 0, 0};
            case 4:
                return new int[] {pick(9), pick(4), 0, 0, 0};
            case 5:
                return new int[] {pick(words), pick(7), 0, 0, 0};
            case 6:
                return new int[] {pick(syllables), pick(9), 0, 0, 0};
            case 7:
                return new int[] {pick(words), pick(5), 0, 0, 0};
            case 8:
            case 9:
                return new int[] {pick(words), 0, 0, 0, 0};
            case 12:
                return new int[] {pick(syllables), pick(4), 0, 0, 0};
            case 18:
                return new int[] {pick(Math.max(1, y.text(-1)) + 2) - 1, 0, 0, 0, 0};
            case 19:
                return new int[] {pick(4), pick(3), pick(3) == 0 ? pick(61) : pick(6), 0, 0};
            case 21:
                return new int[] {pick(4), pick(3), pick(6), random.nextInt() >> pick(32), 0};
            case 22:
                return new int[] {pick(4), pick(7), 0, 0, 0};
            case 23:
                return new int[] {pick(4), pick(5) - 1, pick(4), pick(5), pick(6) - 1};
            default:
                return new int[] {pick(6), pick(6), 0, 0, 0};
        }
    }

    private void one(int act, int[] n) {
        int a = n[0], b = n[1], c = n[2], d = n[3], e = n[4];
        switch (act) {
            case 0: held("type", x.type(a), y.type(a), a); break;
            case 1: held("wipe", x.wipe(), y.wipe()); break;
            case 2: held("read", x.read(a), y.read(a), a); break;
            case 3: held("flaw", x.flaw(), y.flaw()); break;
            case 4: held("way", x.way(a, b), y.way(a, b), a, b); break;
            case 5: held("word", x.word(a, b), y.word(a, b), a, b); break;
            case 6: held("syllable", x.syllable(a, b), y.syllable(a, b), a, b); break;
            case 7: held("mark", x.mark(a, b), y.mark(a, b), a, b); break;
            case 8: held("unmark", x.unmark(a), y.unmark(a), a); break;
            case 9: held("marked", x.marked(a), y.marked(a), a); break;
            case 10: held("clash", x.clash(a), y.clash(a), a); break;
            case 11: held("heard", x.heard(a), y.heard(a), a); break;
            case 12: held("tell", x.tell(a, b), y.tell(a, b), a, b); break;
            case 13: held("copyHeard", x.copyHeard(), y.copyHeard()); break;
            case 14: held("near", x.near(), y.near()); break;
            case 15: held("nearest", x.nearest(a), y.nearest(a), a); break;
            case 16: held("learn", x.learn(), y.learn()); break;
            case 17: held("share", x.share(a), y.share(a), a); break;
            case 18: held("text", x.text(a), y.text(a), a); break;
            case 19: held("sheet", x.sheet(a, b, c), y.sheet(a, b, c), a, b, c); break;
            case 20: held("lose", x.lose(a), y.lose(a), a); break;
            case 21: held("put", x.put(a, b, c, d), y.put(a, b, c, d), a, b, c, d); break;
            case 22: held("get", x.get(a, b), y.get(a, b), a, b); break;
            case 23: held("copy", x.copy(a, b, c, d, e), y.copy(a, b, c, d, e), a, b, c, d, e); break;
            case 24: held("write", x.write(a), y.write(a), a); break;
            case 25: held("count", x.count(a), y.count(a), a); break;
            default: held("digest", x.digest(), y.digest()); break;
        }
    }

    private void held(String name, long got, long want, int... numbers) {
        run.append(name).append('(');
        for (int i = 0; i < numbers.length; i++) {
            run.append(i == 0 ? "" : ", ").append(numbers[i]);
        }
        run.append(") ");
        due.is(got == want ? name : run.toString(), got, want);
    }
}
