import java.util.ArrayList;
import java.util.Comparator;
import java.util.List;
import java.util.NoSuchElementException;

/**
 * The document told once more, slowly: places, people and cars are searched through at every step, and
 * a day is a whole copy of the line. It shares no code and no way of holding things with the program.
 */
final class Model {
    static final class Person {
        int number, from, to, minute, state, boarded = -1, came = -1;

        Person(int number, int from, int to, int minute) {
            this.number = number;
            this.from = from;
            this.to = to;
            this.minute = minute;
        }
    }

    private static final int[] LEAST = {1, 1, 0, 0, 0, 1, 1, 1};
    private static final int[] MOST = {9, 20, 500, 500, 1000000, 10000, 16, 100};

    private int n = 4;
    private int[] height;
    private boolean[] halt;
    private int[] bends;
    private int[] wires;
    private int[] number = {1, 4, 100, 8, 2000, 500, 3, 6};
    private List<Person> people = new ArrayList<>();
    private List<Integer> list = new ArrayList<>();
    private int placeOfA;
    private int time;
    private int rides;
    private int[] latest;

    Model() {
        line(4);
    }

    boolean line(int top) {
        if (top != 2 && top != 4 && top != 6 && top != 8 && top != 10 && top != 12 && top != 14 && top != 16) {
            return false;
        }
        n = top;
        height = new int[n + 1];
        halt = new boolean[n + 1];
        halt[0] = true;
        halt[n] = true;
        wires = new int[n];
        for (int p = 0; p <= n; p++) {
            height[p] = 10 * p;
        }
        people.clear();
        again();
        return true;
    }

    boolean height(int place, int h) {
        if (place < 0 || place > n || h < 0 || h > 999) {
            return false;
        }
        int[] next = height.clone();
        next[place] = h;
        for (int p = 1; p <= n; p++) {
            if (next[p] < next[p - 1]) {
                return false;
            }
        }
        height = next;
        return true;
    }

    boolean halt(int place, boolean is) {
        if (place <= 0 || place >= n || people.stream().anyMatch(p -> p.from == place || p.to == place)) {
            return false;
        }
        halt[place] = is;
        return true;
    }

    int set(int what, int v) {
        if (what < 0 || what > 7 || v < LEAST[what] || v > MOST[what]) {
            return -1;
        }
        if (what == 1 && (v < in(1) || v < in(2))) {
            return -1;
        }
        int was = number[what];
        number[what] = v;
        return was;
    }

    int person(int from, int to, int minute) {
        if (from < 0 || from > n || to < 0 || to > n || !halt[from] || !halt[to] || from == to) {
            return -1;
        }
        if (minute < 0 || minute > 999 || people.size() == 60) {
            return -1;
        }
        people.add(new Person(people.size(), from, to, minute));
        return people.size() - 1;
    }

    int ride(int t) {
        return t < time || t > 2000 ? -1 : go(t);
    }

    private int go(int t) {
        int up = placeOfA == 0 ? 1 : -1;
        int boardedBefore = (int) people.stream().filter(p -> p.boarded >= 0).count();
        int[] rode = new int[7];
        int now = t;
        stop(1, up, now);
        stop(2, -up, now);
        for (int gone = 0; gone < n; gone++) {
            int nextOfA = placeOfA + up;
            int weightA = number[2] + number[3] * in(1);
            int weightB = number[2] + number[3] * in(2);
            int pull = weightA * (height[nextOfA] - height[placeOfA])
                + weightB * (height[n - nextOfA] - height[n - placeOfA]);
            rode[2] += pull > number[4] || -pull > number[4] ? 1 : 0;
            if (gone == 0 || Math.abs(pull) > rode[3]) {
                rode[3] = Math.abs(pull);
                rode[4] = gone;
            }
            bends[Math.min(placeOfA, nextOfA)]++;
            placeOfA = nextOfA;
            now += number[0];
            boolean last = gone == n - 1;
            boolean useA = use(1, up, now);
            boolean useB = use(2, -up, now);
            if (last || useA || useB) {
                stop(1, up, now);
                stop(2, -up, now);
            }
            if (!last && (useA || useB)) {
                rode[0]++;
                rode[1] += useA && useB ? 0 : 1;
                now++;
            }
        }
        rode[5] = (int) people.stream().filter(p -> p.boarded >= 0).count() - boardedBefore;
        rode[6] = now - t;
        latest = rode;
        rides++;
        time = now;
        return now;
    }

    private int placeOf(int car) {
        return car == 1 ? placeOfA : n - placeOfA;
    }

    private int in(int car) {
        return (int) people.stream().filter(p -> p.state == car).count();
    }

    private List<Person> waiting(int car, int way, int now) {
        int place = placeOf(car);
        return people.stream()
            .filter(p -> p.state == 0 && p.from == place && p.minute <= now)
            .filter(p -> Integer.signum(p.to - place) == way)
            .sorted(Comparator.<Person>comparingInt(p -> p.minute).thenComparingInt(p -> p.number))
            .toList();
    }

    private boolean use(int car, int way, int now) {
        int place = placeOf(car);
        if (!halt[place]) {
            return false;
        }
        int off = (int) people.stream().filter(p -> p.state == car && p.to == place).count();
        return off > 0 || !waiting(car, way, now).isEmpty() && in(car) - off < number[1];
    }

    private void stop(int car, int way, int now) {
        int place = placeOf(car);
        if (!halt[place]) {
            return;
        }
        for (Person p : people) {
            if (p.state == car && p.to == place) {
                p.state = 3;
                p.came = now;
            }
        }
        for (Person p : waiting(car, way, now)) {
            if (in(car) < number[1]) {
                p.state = car;
                p.boarded = now;
            }
        }
    }

    int count(int what) {
        if (what < 0 || what > 9) {
            return -1;
        }
        int waits = people.stream().filter(p -> p.boarded >= 0).mapToInt(p -> p.boarded - p.minute).sum();
        return new int[] {n, people.size(), placeOfA, time, in(0), in(1), in(2), in(3), rides, waits}[what];
    }

    int of(int person, int what) {
        if (person < 0 || person >= people.size() || what < 0 || what > 5) {
            throw new NoSuchElementException();
        }
        Person p = people.get(person);
        return new int[] {p.state, p.from, p.to, p.minute, p.boarded, p.came}[what];
    }

    int rode(int what) {
        return latest == null || what < 0 || what > 6 ? -1 : latest[what];
    }

    int again() {
        people.replaceAll(p -> new Person(p.number, p.from, p.to, p.minute));
        bends = new int[n];
        placeOfA = 0;
        time = 0;
        rides = 0;
        latest = null;
        return people.size();
    }

    int at(int minute) {
        if (minute < 0 || minute > 2000 || list.size() == 8) {
            return -1;
        }
        list.add(minute);
        return list.size();
    }

    int clear() {
        int had = list.size();
        list.clear();
        return had;
    }

    int day(int bits) {
        if (bits < 0 || bits >= Math.pow(2, list.size())) {
            return -1;
        }
        Model m = new Model();
        m.line(n);
        m.height = height.clone();
        m.halt = halt.clone();
        m.number = number.clone();
        people.forEach(p -> m.person(p.from, p.to, p.minute));
        List<Integer> starts = new ArrayList<>();
        for (int i = 0; i < list.size(); i++) {
            if ((bits & 1 << i) != 0) {
                starts.add(list.get(i));
            }
        }
        starts.sort(null);
        for (int start : starts) {
            m.go(start < m.time ? m.time : start);
        }
        int left = m.people.stream().filter(p -> p.state == 0 && p.minute < m.time).mapToInt(p -> m.time - p.minute).sum();
        return m.count(9) + left;
    }

    int best(int k) {
        int found = -1;
        for (int bits = (1 << list.size()) - 1; bits >= 0; bits--) {
            if (Integer.bitCount(bits) == k && (found < 0 || day(bits) <= day(found))) {
                found = bits;
            }
        }
        return found;
    }

    int broken(int piece, int v) {
        if (piece < 0 || piece >= n || v < 1 || v > 100 || wires[piece] + v > 1000) {
            return -1;
        }
        return wires[piece] += v;
    }

    int bent(int piece) {
        return piece < 0 || piece >= n ? -1 : bends[piece];
    }

    int off() {
        for (int p = 0; p < n; p++) {
            if (bends[p] > number[5]) {
                return 1 + p;
            }
        }
        for (int first = 0; first < n; first++) {
            int sum = 0;
            for (int p = first; p < n && p - first < number[6]; p++) {
                sum += wires[p];
                if (sum >= number[7]) {
                    return 100 + first;
                }
            }
        }
        return 0;
    }
}
