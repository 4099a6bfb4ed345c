import java.nio.charset.StandardCharsets;
import java.util.Arrays;
import java.util.NoSuchElementException;
import java.util.function.Supplier;

/** What the tests share: how a cock is told texts, and how its answers are compared with those that are due. */
abstract class Kit {
    static final int NONE = -1;
    static final int LEAST = Integer.MIN_VALUE;
    static final int GREATEST = Integer.MAX_VALUE;

    /** Two FACTS and three PEOPLE: tom at 90 knows rain, sue at 270 knows both, bob at 350 knows nothing. */
    static final String VILLAGE = "fact rain; fact theft chance 2; place gate bearing 90; place inn bearing 270;"
        + "place mill bearing 350; person tom at gate knows rain; person sue at inn knows rain theft;"
        + "person bob at mill knows; common rain or not theft; cock 0 law 0 late 2; cock 1 law 1 late 0;";

    private static int wrong = 0;
    private static int asked = 0;

    /** A call of one number. */
    interface Call {
        long with(int value);
    }

    /** A call on a cock. */
    interface Ask {
        long of(LiarsCock x);
    }

    /** Tells what came of all the tests; the end of each main. */
    static void end() {
        System.out.println(wrong == 0 ? asked + " answers are as due" : wrong + " answers are not as due");
        if (wrong != 0) {
            System.exit(1);
        }
    }

    static void due(String what, long got, long want) {
        asked++;
        if (got != want) {
            wrong++;
            System.out.println(what + ": answered " + got + ", due is " + want);
        }
    }

    static void due(String what, boolean got, boolean want) {
        due(what, got ? 1 : 0, want ? 1 : 0);
    }

    static int feed(LiarsCock x, String text) {
        byte[] signs = Arrays.copyOf(text.getBytes(StandardCharsets.ISO_8859_1), (text.length() + 23) / 24 * 24);
        int length = x.count(10);
        for (int i = 0; i < signs.length; i += 24) {
            long[] three = new long[3];
            for (int j = 0; j < 24; j++) {
                three[j / 8] = three[j / 8] << 8 | signs[i + j] & 255;
            }
            length = x.feed(three[0], three[1], three[2]);
        }
        return length;
    }

    static int parish(LiarsCock x, String text) {
        feed(x, text);
        return x.parish();
    }

    static int say(LiarsCock x, int person, int minute, String text) {
        feed(x, text);
        return x.say(person, minute);
    }

    static int offer(LiarsCock x, int person, int minute, String text) {
        feed(x, text);
        return x.offer(person, minute);
    }

    static LiarsCock village(String text) {
        LiarsCock x = new LiarsCock();
        due("parish " + text, parish(x, text), 0);
        return x;
    }

    /** Tom says at 10 that it did not rain, sue at 20 that there was theft, tom asks at 30; it rained only. */
    static LiarsCock talk() {
        LiarsCock x = village(VILLAGE);
        x.truth(1);
        due("say not rain", say(x, 0, 10, "not rain"), 0);
        due("say theft", say(x, 1, 20, "theft"), 0);
        due("ask", x.say(0, 30), 0);
        return x;
    }

    /** All numbers from the first to the last are taken; what is just outside, or far, answers NONE. */
    static void bounds(String what, int first, int last, Call call) {
        due(what + " " + first, call.with(first) != NONE, true);
        due(what + " " + last, call.with(last) != NONE, true);
        for (int outside : new int[] {first - 1, last + 1, LEAST, GREATEST}) {
            due(what + " " + outside, call.with(outside), NONE);
        }
    }

    /** The like for a call that may answer NONE to a number that is taken. */
    static void outside(String what, int first, int last, Call call) {
        for (int outside : new int[] {first - 1, last + 1, LEAST, GREATEST}) {
            due(what + " " + outside, call.with(outside), NONE);
        }
    }

    /** A call that is refused on a cock made anew: what was so ahead of it is so behind it. */
    static void refused(String what, Supplier<LiarsCock> made, long want, Ask call) {
        LiarsCock x = made.get();
        String image = image(x);
        due(what, call.of(x), want);
        due(what + " changes nothing", image(x).equals(image), true);
    }

    /** What a cock answers of all that it was told, but for its TAPE. */
    static String image(LiarsCock x) {
        StringBuilder s = new StringBuilder();
        for (int what : new int[] {0, 1, 2, 3, 4, 5, 6, 7, 8, 9, 11}) {
            s.append(x.count(what)).append(' ');
        }
        int truth = x.count(9);
        for (int i = 0; i < 6; i++) {
            s.append(x.person(i, 1)).append(' ').append(x.person(i, 2)).append(' ').append(x.odds(i, 0)).append(' ');
        }
        for (int i = 0; i < 24; i++) {
            s.append(x.lie(i, truth)).append(x.sure(i)).append(' ');
        }
        for (int minute = 0; minute <= 60; minute += 4) {
            s.append(x.points(0, minute, truth)).append(x.points(1, minute, 0)).append(' ');
        }
        s.append(x.worlds(NONE)).append(' ').append(x.judged()).append(' ').append(x.clash(1)).append(' ');
        int offers = (1 << x.count(7)) - 1;
        s.append(x.hidden(0, 0)).append(x.hidden(0, offers)).append(x.hidden(1, offers)).append(x.hide(0, 1));
        return s.toString();
    }

    /** What secret() answers; -2 stands for NoSuchElementException. */
    static long secret(LiarsCock x, int saying, int cock, int ten, int n, int what) {
        try {
            return x.secret(saying, cock, ten, n, what);
        } catch (NoSuchElementException e) {
            return -2;
        }
    }
}
