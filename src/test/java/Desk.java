import java.util.ArrayList;
import java.util.List;

/**
 * A StreamDesk whose calls are written down: d.take().is(1) tells an answer that is not as due
 * together with the calls that led to it. More calls than the document promises are a fault.
 */
final class Desk {
    static final int NONE = -1, BAD = -2, FULL = -3;
    static final int LEAST = Integer.MIN_VALUE, MOST = Integer.MAX_VALUE;

    private static final int MOST_CALLS = 512;
    private static final int CALLS_TOLD = 40;

    final StreamDesk inner = new StreamDesk();
    private final List<String> calls = new ArrayList<>();
    private long answer;

    /** One that knows RATE 1000 for SORT 0, so that a stamp is a millisecond. */
    static Desk rated() {
        Desk d = new Desk();
        d.rate(0, 1000);
        return d;
    }

    /** One with a SENDER that is believed from the NUMBER on, whose STAMP was 0. */
    static Desk believed(int sender, int number) {
        return rated().believe(sender, number);
    }

    Desk believe(int sender, int number) {
        send(sender, number - 1 & 65535, 0);
        return send(sender, number, 0);
    }

    void is(long want) {
        Check.due(told(), answer, want);
    }

    private String told() {
        int from = Math.max(0, calls.size() - CALLS_TOLD);
        return (from > 0 ? ".. " + from + " calls .. " : "") + String.join(" ", calls.subList(from, calls.size()));
    }

    private Desk called(String call, long gave) {
        calls.add(call + "=" + gave);
        answer = gave;
        if (calls.size() == MOST_CALLS + 1) {
            Check.holds(told() + " keeps to " + MOST_CALLS + " calls", false);
        }
        return this;
    }

    Desk type(long v, int n) {
        return called("type(" + v + ", " + n + ")", inner.type(v, n));
    }

    Desk clear() {
        return called("clear()", inner.clear());
    }

    Desk alter(int i, int v) {
        return called("alter(" + i + ", " + v + ")", inner.alter(i, v));
    }

    Desk at(int i) {
        return called("at(" + i + ")", inner.at(i));
    }

    Desk rate(int sort, int rate) {
        return called("rate(" + sort + ", " + rate + ")", inner.rate(sort, rate));
    }

    Desk take() {
        return called("take()", inner.take());
    }

    Desk data(int what) {
        return called("data(" + what + ")", inner.data(what));
    }

    Desk pass(int milliseconds) {
        return called("pass(" + milliseconds + ")", inner.pass(milliseconds));
    }

    Desk delay(int milliseconds) {
        return called("delay(" + milliseconds + ")", inner.delay(milliseconds));
    }

    Desk sender(int s, int what) {
        return called("sender(" + s + ", " + what + ")", inner.sender(s, what));
    }

    Desk next(int s) {
        return called("next(" + s + ")", inner.next(s));
    }

    Desk time(int s, long n) {
        return called("time(" + s + ", " + n + ")", inner.time(s, n));
    }

    Desk event(int i, int what) {
        return called("event(" + i + ", " + what + ")", inner.event(i, what));
    }

    Desk report(int own) {
        return called("report(" + own + ")", inner.report(own));
    }

    Desk hear() {
        return called("hear()", inner.hear());
    }

    Desk heard(int what) {
        return called("heard(" + what + ")", inner.heard(what));
    }

    Desk count(int what) {
        return called("count(" + what + ")", inner.count(what));
    }

    Desk digest() {
        return called("digest()", inner.digest());
    }

    /** THE PACKET is these bytes. */
    Desk bytes(int... values) {
        clear();
        for (int i = 0; i < values.length; i += 8) {
            int n = Math.min(8, values.length - i);
            long v = 0;
            for (int k = 0; k < n; k++) {
                v = v << 8 | values[i + k];
            }
            type(v, n);
        }
        return this;
    }

    /** THE PACKET is these words of four bytes. */
    Desk words(long... values) {
        clear();
        for (long v : values) {
            type(v, 4);
        }
        return this;
    }

    /** The answer of take() for a plain DATA packet of SORT 0. */
    Desk send(int sender, int number, int stamp) {
        return sendSort(0, sender, number, stamp);
    }

    Desk sendSort(int sort, int sender, int number, int stamp) {
        clear();
        type((0x8000L | sort) << 48 | (long) number << 32 | stamp & 0xFFFFFFFFL, 8);
        type(sender, 4);
        return take();
    }

    /** The answer of hear() for a REPORT of these words. */
    Desk hearWords(long... values) {
        return words(values).hear();
    }

    void leaves(int sender) {
        hearWords(Wire.part(0, 201, 2), 0, Wire.part(1, 203, 2), sender).is(2);
    }

    void eventIs(int i, int kind, int sender, long number, int now) {
        event(i, 0).is(kind);
        event(i, 1).is(sender);
        event(i, 2).is(number);
        event(i, 3).is(now);
    }

    /** sender(s, from), sender(s, from + 1) .. are these. */
    void senderIs(int s, int from, long... want) {
        for (int k = 0; k < want.length; k++) {
            sender(s, from + k).is(want[k]);
        }
    }

    void heardIs(long... want) {
        for (int what = 0; what < want.length; what++) {
            heard(what).is(want[what]);
        }
    }

    /** Word w of THE PACKET is this one. */
    void wordIs(int w, long want) {
        for (int k = 0; k < 4; k++) {
            at(4 * w + k).is(want >>> 24 - 8 * k & 255);
        }
    }

    void packetIs(long... words) {
        count(0).is(4L * words.length);
        for (int w = 0; w < words.length; w++) {
            wordIs(w, words[w]);
        }
    }

    /** What can be seen of it in few calls, to be held against what is seen behind a refusal. */
    String seen() {
        StringBuilder seen = new StringBuilder();
        seen.append(digest().answer);
        for (int what = 0; what < 7; what++) {
            seen.append(' ').append(heard(what).answer);
        }
        for (int what = 0; what < 4; what++) {
            seen.append(' ').append(event(0, what).answer);
        }
        return seen.toString();
    }

    void stays(String before) {
        String run = told();
        Check.holds(run + " changes nothing", seen().equals(before));
    }
}
