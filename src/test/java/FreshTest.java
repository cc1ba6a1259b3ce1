/** Each question, asked first behind each change of an object that had answered all of them before. */
public final class FreshTest {
    private static final Due due = new Due();
    private static final int CHANGES = 12, QUESTIONS = 21;

    public static void main(String[] args) {
        for (int change = 0; change < CHANGES; change++) {
            for (int question = 0; question < QUESTIONS; question++) {
                for (int asked = 0; asked <= 1; asked++) {
                    hold(change, question, asked == 1);
                }
            }
        }
        due.end();
    }

    private static void hold(int change, int question, boolean askedBefore) {
        BeatWords x = new BeatWords();
        Oracle y = new Oracle();
        String text = "dabaiba nan da";
        x.sheet(0, 0, 4);
        y.sheet(0, 0, 4);
        for (int i = 0; i < 4; i++) {
            x.put(0, 0, i, "a ba".charAt(i));
            y.put(0, 0, i, "a ba".charAt(i));
        }
        x.sheet(1, 1, 9);
        y.sheet(1, 1, 9);
        for (int i = 0; i < text.length(); i++) {
            x.type(text.charAt(i));
            y.type(text.charAt(i));
        }
        x.way(6, 1);
        y.way(6, 1);
        x.way(8, 1);
        y.way(8, 1);
        x.mark(2, 0);
        y.mark(2, 0);
        x.tell(1, 2);
        y.tell(1, 2);
        if (askedBefore) {
            due.promise("as set up");
            due.is("digest()", x.digest(), y.digest());
        }
        due.promise("behind change " + change);
        due.is("change " + change, change(x, change), change(y, change));
        due.is("question " + question, ask(x, question), ask(y, question));
        due.is("digest() behind question " + question, x.digest(), y.digest());
    }

    private static long change(BeatWords x, int change) {
        switch (change) {
            case 0: return x.type('n');
            case 1: return x.wipe();
            case 2: return x.read(0);
            case 3: return x.way(0, 1);
            case 4: return x.way(4, 2);
            case 5: return x.way(8, 3);
            case 6: return x.mark(0, 2);
            case 7: return x.unmark(2);
            case 8: return x.tell(0, 2);
            case 9: return x.copyHeard();
            case 10: return x.learn();
            default: return x.way(3, 2);
        }
    }

    private static long change(Oracle x, int change) {
        switch (change) {
            case 0: return x.type('n');
            case 1: return x.wipe();
            case 2: return x.read(0);
            case 3: return x.way(0, 1);
            case 4: return x.way(4, 2);
            case 5: return x.way(8, 3);
            case 6: return x.mark(0, 2);
            case 7: return x.unmark(2);
            case 8: return x.tell(0, 2);
            case 9: return x.copyHeard();
            case 10: return x.learn();
            default: return x.way(3, 2);
        }
    }

    private static long ask(BeatWords x, int question) {
        switch (question) {
            case 0: return x.flaw();
            case 1: return x.word(0, 1);
            case 2: return x.word(0, 4);
            case 3: return x.syllable(3, 6);
            case 4: return x.syllable(1, 3);
            case 5: return x.mark(2, 0);
            case 6: return x.mark(0, 3);
            case 7: return x.unmark(2);
            case 8: return x.marked(2);
            case 9: return x.clash(0);
            case 10: return x.heard(2);
            case 11: return x.tell(3, 1);
            case 12: return x.copyHeard();
            case 13: return x.near();
            case 14: return x.nearest(4);
            case 15: return x.learn();
            case 16: return x.share(2);
            case 17: return x.text(-1);
            case 18: return x.write(1) * 100 + x.get(1, 0) * 10 + x.get(1, 1);
            case 19: return x.count(6);
            default: return x.digest();
        }
    }

    private static long ask(Oracle x, int question) {
        switch (question) {
            case 0: return x.flaw();
            case 1: return x.word(0, 1);
            case 2: return x.word(0, 4);
            case 3: return x.syllable(3, 6);
            case 4: return x.syllable(1, 3);
            case 5: return x.mark(2, 0);
            case 6: return x.mark(0, 3);
            case 7: return x.unmark(2);
            case 8: return x.marked(2);
            case 9: return x.clash(0);
            case 10: return x.heard(2);
            case 11: return x.tell(3, 1);
            case 12: return x.copyHeard();
            case 13: return x.near();
            case 14: return x.nearest(4);
            case 15: return x.learn();
            case 16: return x.share(2);
            case 17: return x.text(-1);
            case 18: return x.write(1) * 100 + x.get(1, 0) * 10 + x.get(1, 1);
            case 19: return x.count(6);
            default: return x.digest();
        }
    }
}
