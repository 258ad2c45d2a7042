import java.util.ArrayList;
import java.util.List;
import java.util.Map;
import java.util.TreeMap;

/**
 * The document built a second time, as plainly as the Java library lets it be, without a thought
 * for the rules that bind the class itself: lists that grow, maps that are sorted.
 */
final class Model {
    private static final class Source {
        int name, index, top, rounds, base, odd, wait, got, gotBefore, dueBefore, jitter;
        Integer transit;
        boolean left;
        long next, startTime;
        int startStamp;
        byte[] clock;
        int clockNow;
        final int[] kinds = new int[8];
        final TreeMap<Long, Long> waiting = new TreeMap<>();

        void set(int q) {
            base = q;
            top = q;
            odd = 65537;
            rounds = got = gotBefore = dueBefore = 0;
        }

        int due() {
            return rounds + top - base + 1;
        }
    }

    private List<Integer> packet = new ArrayList<>();
    private final Map<Integer, Integer> rates = new TreeMap<>();
    private final List<Source> sources = new ArrayList<>();
    private final List<long[]> events = new ArrayList<>();
    private int now, delay = 100, good, notYet, faults, reports, own;
    private int[] block = new int[7];

    int type(long v, int n) {
        if (n < 0 || n > 8) {
            return -2;
        }
        if (packet.size() + n > 300) {
            return -3;
        }
        put(v, n);
        return packet.size();
    }

    private void put(long v, int n) {
        String hex = String.format("%016x", v);
        for (int k = 16 - 2 * n; k < 16; k += 2) {
            packet.add(Integer.parseInt(hex.substring(k, k + 2), 16));
        }
    }

    int clear() {
        int had = packet.size();
        packet = new ArrayList<>();
        return had;
    }

    int alter(int i, int v) {
        return i < 0 || i >= packet.size() || v < 0 || v > 255 ? -2 : packet.set(i, v);
    }

    int at(int i) {
        return i < 0 || i >= packet.size() ? -2 : packet.get(i);
    }

    int rate(int sort, int rate) {
        if (sort < 0 || sort > 127 || rate < 0 || rate > 200000) {
            return -2;
        }
        Integer was = rates.put(sort, rate);
        return was == null ? 0 : was;
    }

    private long big(int place, int n) {
        long sum = 0;
        for (int k = 0; k < n; k++) {
            sum = sum * 256 + packet.get(place + k);
        }
        return sum;
    }

    private Source find(int name) {
        return sources.stream().filter(s -> s.name == name).findFirst().orElse(null);
    }

    /** All ten answers of data(). */
    private int[] look() {
        int[] f = new int[10];
        int size = packet.size();
        if (size < 12) {
            f[0] = 1;
            return f;
        }
        int first = packet.get(0);
        if (first / 64 != 2) {
            f[0] = 2;
            return f;
        }
        int place = 12 + first % 16 * 4;
        if (place > size) {
            f[0] = 3;
            return f;
        }
        int mark = 0;
        if (first / 16 % 2 == 1) {
            if (place + 4 > size || place + 4 + 4 * big(place + 2, 2) > size) {
                f[0] = 4;
                return f;
            }
            mark = (int) big(place, 2);
            place += 4 + 4 * (int) big(place + 2, 2);
        }
        int fill = 0;
        if (first / 32 % 2 == 1) {
            fill = packet.get(size - 1);
            if (fill == 0 || fill > size - place) {
                f[0] = 5;
                return f;
            }
        }
        int sort = packet.get(1) % 128;
        int name = (int) big(8, 4);
        if (rates.getOrDefault(sort, 0) == 0) {
            f[0] = 6;
        } else if (sources.size() == 6 && find(name) == null) {
            f[0] = 7;
        }
        int[] rest = {packet.get(1) / 128, sort, (int) big(2, 2), (int) big(4, 4), name, first % 16,
            place, size - place - fill, mark};
        System.arraycopy(rest, 0, f, 1, 9);
        return f;
    }

    int data(int what) {
        return what < 0 || what > 9 ? -2 : look()[what];
    }

    int take() {
        int[] f = look();
        if (f[0] != 0) {
            faults++;
            return -10 - f[0];
        }
        int q = f[3];
        Source s = find(f[5]);
        if (s == null) {
            s = new Source();
            s.name = f[5];
            s.index = sources.size();
            s.set(q);
            s.top = (q + 65535) % 65536;
            s.wait = 2;
            sources.add(s);
        }
        boolean begins = false;
        boolean yes = true;
        if (s.wait > 0) {
            if (q == (s.top + 1) % 65536) {
                s.wait--;
                s.top = q;
                if (s.wait == 0) {
                    s.set(q);
                    s.got = 1;
                    begins = true;
                } else {
                    yes = false;
                }
            } else {
                s.wait = 1;
                s.top = q;
                yes = false;
            }
        } else {
            int u = Math.floorMod(q - s.top, 65536);
            if (u < 3000) {
                if (q < s.top) {
                    s.rounds += 65536;
                }
                s.top = q;
            } else if (u <= 65436) {
                if (q == s.odd) {
                    s.set(q);
                    begins = true;
                } else {
                    s.odd = (q + 1) % 65536;
                    yes = false;
                }
            }
            if (yes) {
                s.got++;
            }
        }
        if (!yes) {
            notYet++;
            return 0;
        }
        good++;
        int rate = rates.get(f[2]);
        jitter(s, (int) ((long) now * rate / 1000 - f[4]));
        long n = q <= s.top ? s.rounds + q : s.rounds + q - 65536;
        play(s, n, f[4], rate, begins);
        return 1;
    }

    private void jitter(Source s, int transit) {
        if (s.transit != null) {
            int d = transit - s.transit;
            d = d < 0 ? -d : d;
            s.jitter = s.jitter + d - Math.floorDiv(s.jitter + 8, 16);
        }
        s.transit = transit;
    }

    private void happens(int kind, Source s, long n) {
        s.kinds[kind]++;
        events.add(new long[] {kind, s.index, n, now});
    }

    private void play(Source s, long n, int stamp, int rate, boolean begins) {
        if (!begins) {
            if (n < s.next) {
                happens(3, s, n);
                return;
            }
            if (n >= s.next + 32) {
                if (!s.waiting.isEmpty()) {
                    happens(4, s, n);
                    return;
                }
                begins = true;
            } else if (s.waiting.containsKey(n)) {
                happens(5, s, n);
                return;
            }
        }
        if (begins) {
            s.waiting.clear();
            s.next = n;
            s.startTime = now + delay;
            s.startStamp = stamp;
            happens(6, s, n);
        }
        s.waiting.put(n, s.startTime + Math.floorDiv((stamp - s.startStamp) * 1000L, (long) rate));
        goOn(s);
    }

    private int goOn(Source s) {
        int before = s.kinds[1] + s.kinds[2];
        while (true) {
            Long due = null;
            for (Map.Entry<Long, Long> e : s.waiting.entrySet()) {
                if (e.getValue() <= now) {
                    due = e.getKey();
                    break;
                }
            }
            if (due == null) {
                return s.kinds[1] + s.kinds[2] - before;
            }
            for (long lost = s.next; lost < due; lost++) {
                happens(2, s, lost);
            }
            happens(1, s, due);
            s.waiting.headMap(due, true).clear();
            s.next = due + 1;
        }
    }

    int pass(int milliseconds) {
        if (milliseconds < 0 || milliseconds > 10000) {
            return -2;
        }
        if (now + milliseconds > 100000000) {
            return -3;
        }
        now += milliseconds;
        return sources.stream().mapToInt(this::goOn).sum();
    }

    int delay(int milliseconds) {
        if (milliseconds < 0 || milliseconds > 5000) {
            return -2;
        }
        int was = delay;
        delay = milliseconds;
        return was;
    }

    private boolean isSource(int s) {
        return s >= 0 && s < sources.size();
    }

    private static int cutLost(Source s) {
        return Math.min(8388607, Math.max(-8388608, s.due() - s.got));
    }

    int sender(int index, int what) {
        if (!isSource(index) || what < 0 || what > 16) {
            return Integer.MIN_VALUE;
        }
        Source s = sources.get(index);
        int[] all = {s.name, s.top, s.rounds, s.base, s.odd, s.wait, s.got, s.jitter,
            s.wait > 0 ? 0 : s.due(), s.wait > 0 ? 0 : cutLost(s),
            s.kinds[1], s.kinds[2], s.kinds[3], s.kinds[4], s.kinds[5], s.waiting.size(), s.left ? 1 : 0};
        return all[what];
    }

    long next(int s) {
        return isSource(s) ? sources.get(s).next : 0;
    }

    long time(int s, long n) {
        return isSource(s) ? sources.get(s).waiting.getOrDefault(n, -1L) : -2;
    }

    long event(int i, int what) {
        if (i < 0 || i >= events.size() || i >= 64) {
            return -1;
        }
        return what < 0 || what > 3 ? -2 : events.get(events.size() - 1 - i)[what];
    }

    int report(int given) {
        own = given;
        packet = new ArrayList<>();
        put(0x80C90000L, 4);
        put(own, 4);
        for (Source s : sources) {
            if (s.wait > 0 || s.left) {
                continue;
            }
            int e = s.due() - s.dueBefore;
            int l = e - (s.got - s.gotBefore);
            s.dueBefore = s.due();
            s.gotBefore = s.got;
            put(s.name, 4);
            put(e == 0 || l <= 0 ? 0 : 256 * l / e, 1);
            put(cutLost(s), 3);
            put(s.rounds + s.top, 4);
            put(Math.floorDiv(s.jitter, 16), 4);
            for (int k = 2; k < 6; k++) {
                put(s.clock == null ? 0 : s.clock[k], 1);
            }
            put(s.clock == null ? 0 : (now - s.clockNow) * 65536L / 1000, 4);
            packet.set(0, packet.get(0) + 1);
        }
        packet.set(3, packet.size() / 4 - 1);
        return packet.size();
    }

    private int reportFault() {
        int size = packet.size();
        if (size < 8 || size % 4 != 0) {
            return 11;
        }
        if (packet.get(1) != 200 && packet.get(1) != 201 || packet.get(0) / 32 % 2 == 1) {
            return 12;
        }
        for (int p = 0; p < size; p += 4 + 4 * (int) big(p + 2, 2)) {
            int length = 4 + 4 * (int) big(p + 2, 2);
            int counted = packet.get(p) % 32;
            int sort = packet.get(p + 1);
            if (packet.get(p) / 64 != 2) {
                return 13;
            }
            if (p + length > size) {
                return 14;
            }
            if (sort == 200 && length < 28 + 24 * counted || sort == 201 && length < 8 + 24 * counted
                    || sort == 203 && length < 4 + 4 * counted) {
                return 15;
            }
            if (sort < 200 || sort > 203 || packet.get(p) / 32 % 2 == 1 && p + length != size) {
                return 16;
            }
        }
        return 0;
    }

    int hear() {
        int fault = reportFault();
        if (fault != 0) {
            return -10 - fault;
        }
        int parts = 0;
        for (int p = 0; p < packet.size(); p += 4 + 4 * (int) big(p + 2, 2)) {
            parts++;
            int counted = packet.get(p) % 32;
            int sort = packet.get(p + 1);
            if (sort == 200) {
                Source s = find((int) big(p + 4, 4));
                if (s != null) {
                    s.clock = new byte[8];
                    for (int k = 0; k < 8; k++) {
                        s.clock[k] = packet.get(p + 8 + k).byteValue();
                    }
                    s.clockNow = now;
                }
            }
            for (int k = 0; k < counted && (sort == 200 || sort == 201); k++) {
                int b = p + (sort == 200 ? 28 : 8) + 24 * k;
                if ((int) big(b, 4) == own) {
                    int lost = (int) big(b + 5, 3);
                    block = new int[] {packet.get(b + 4), lost >= 8388608 ? lost - 16777216 : lost,
                        (int) big(b + 8, 4), (int) big(b + 12, 4), (int) big(b + 16, 4), (int) big(b + 20, 4),
                        (int) big(p + 4, 4)};
                }
            }
            for (int k = 0; k < counted && sort == 203; k++) {
                Source s = find((int) big(p + 4 + 4 * k, 4));
                if (s != null && !s.left) {
                    s.left = true;
                    s.waiting.clear();
                    happens(7, s, 0);
                }
            }
        }
        reports++;
        return parts;
    }

    int heard(int what) {
        return what < 0 || what > 6 ? -2 : block[what];
    }

    int count(int what) {
        int[] all = {packet.size(), sources.size(), now, events.size(), good, notYet, faults, reports, delay};
        return what < 0 || what > 8 ? -2 : all[what];
    }

    long digest() {
        List<Long> all = new ArrayList<>();
        for (int what = 0; what < 9; what++) {
            all.add((long) count(what));
        }
        for (int s = 0; s < sources.size(); s++) {
            for (int what = 0; what < 17; what++) {
                all.add((long) sender(s, what));
            }
            all.add(next(s));
        }
        packet.forEach(b -> all.add((long) b));
        long h = 17;
        for (long one : all) {
            h = 31 * h + one;
        }
        return h;
    }
}
