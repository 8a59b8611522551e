import java.util.Arrays;
import java.util.NoSuchElementException;

/** A hill line whose two cars hang on one rope; README.md says how to use it. */
public final class TwoCars {
    public static final int NONE = -1;

    private static final int LEAST_TOP = 2;
    private static final int MOST_TOP = 16;
    private static final int TOP_AT_FIRST = 4;
    private static final int RISE_AT_FIRST = 10;
    private static final int MOST_HEIGHT = 999;
    private static final int MOST_PEOPLE = 60;
    private static final int MOST_MINUTE = 999;
    private static final int MOST_START = 2000;
    private static final int MOST_LISTED = 8;
    private static final int MOST_BROKEN_AT_ONCE = 100;
    private static final int MOST_WIRES = 1000;
    private static final int WORN = 1;
    private static final int FRAYED = 100;

    private static final int WAITS = 0;
    private static final int IN_A = 1;
    private static final int IN_B = 2;
    private static final int HAS_COME = 3;

    private static final int RUN = 0;
    private static final int ROOM = 1;
    private static final int EMPTY = 2;
    private static final int PERSON = 3;
    private static final int MOTOR = 4;
    private static final int LIFE = 5;
    private static final int SPAN = 6;
    private static final int LIMIT = 7;
    private static final int NUMBERS = 8;
    private static final int MOST_ROOM = 20;
    private static final int[] LEAST = {1, 1, 0, 0, 0, 1, 1, 1};
    private static final int[] MOST = {9, MOST_ROOM, 500, 500, 1000000, 10000, 16, 100};
    private static final int[] AT_FIRST = {1, 4, 100, 8, 2000, 500, 3, 6};

    private final Plan plan = new Plan();
    private final Rope rope = new Rope();
    private final Traffic live = new Traffic();
    /* Days are tried on an object of their own, so that they cannot change anything. */
    private final Traffic trial = new Traffic();
    private final int[] list = new int[MOST_LISTED];
    private final int[] starts = new int[MOST_LISTED];
    private int listed = 0;

    public TwoCars() {
        plan.lay(TOP_AT_FIRST);
        live.startAnew();
    }

    public boolean line(int n) {
        if (n < LEAST_TOP || n > MOST_TOP || n % 2 != 0) {
            return false;
        }
        plan.lay(n);
        rope.unbend();
        rope.mend();
        live.startAnew();
        return true;
    }

    public boolean height(int place, int h) {
        if (!plan.hasPlace(place) || !inRange(h, 0, MOST_HEIGHT)) {
            return false;
        }
        if (place > 0 && h < plan.heights[place - 1]) {
            return false;
        }
        if (place < plan.n && h > plan.heights[place + 1]) {
            return false;
        }
        plan.heights[place] = h;
        return true;
    }

    public boolean halt(int place, boolean is) {
        if (!inRange(place, 1, plan.n - 1) || plan.isWanted(place)) {
            return false;
        }
        plan.halts[place] = is;
        return true;
    }

    public int set(int what, int v) {
        if (!inRange(what, 0, NUMBERS - 1) || !inRange(v, LEAST[what], MOST[what])) {
            return NONE;
        }
        if (what == ROOM && v < Math.max(howMany(IN_A), howMany(IN_B))) {
            return NONE;
        }
        int before = plan.numbers[what];
        plan.numbers[what] = v;
        return before;
    }

    public int person(int from, int to, int minute) {
        if (!plan.isHalt(from) || !plan.isHalt(to) || from == to) {
            return NONE;
        }
        if (!inRange(minute, 0, MOST_MINUTE) || plan.people >= MOST_PEOPLE) {
            return NONE;
        }
        return plan.add(from, to, minute);
    }

    public int ride(int t) {
        if (t < live.end || t > MOST_START) {
            return NONE;
        }
        live.travel(plan, t);
        rope.bendAll(plan.n);
        return live.end;
    }

    public int count(int what) {
        switch (what) {
            case 0: return plan.n;
            case 1: return plan.people;
            case 2: return live.a.place;
            case 3: return live.end;
            case 4: return howMany(WAITS);
            case 5: return howMany(IN_A);
            case 6: return howMany(IN_B);
            case 7: return howMany(HAS_COME);
            case 8: return live.rides;
            case 9: return live.waited;
            default: return NONE;
        }
    }

    public int of(int person, int what) throws NoSuchElementException {
        if (person < 0 || person >= plan.people) {
            throw new NoSuchElementException("no such person");
        }
        switch (what) {
            case 0: return live.states[person];
            case 1: return plan.from[person];
            case 2: return plan.to[person];
            case 3: return plan.minutes[person];
            case 4: return live.boarded[person];
            case 5: return live.came[person];
            default: throw new NoSuchElementException("nothing such of a person");
        }
    }

    public int rode(int what) {
        if (live.rides == 0) {
            return NONE;
        }
        switch (what) {
            case 0: return live.stops;
            case 1: return live.idle;
            case 2: return live.heavy;
            case 3: return live.greatestPull;
            case 4: return live.greatestStep;
            case 5: return live.newcomers;
            case 6: return live.duration;
            default: return NONE;
        }
    }

    public int again() {
        rope.unbend();
        live.startAnew();
        return plan.people;
    }

    public int at(int minute) {
        if (!inRange(minute, 0, MOST_START) || listed >= MOST_LISTED) {
            return NONE;
        }
        list[listed] = minute;
        listed++;
        return listed;
    }

    public int clear() {
        int had = listed;
        listed = 0;
        return had;
    }

    public int day(int bits) {
        if (!inRange(bits, 0, allBits())) {
            return NONE;
        }
        return tryDay(bits);
    }

    public int best(int k) {
        if (!inRange(k, 0, listed)) {
            return NONE;
        }
        int found = NONE;
        int least = 0;
        for (int bits = 0; bits <= allBits(); bits++) {
            if (Integer.bitCount(bits) == k) {
                int sum = tryDay(bits);
                if (found == NONE || sum < least) {
                    found = bits;
                    least = sum;
                }
            }
        }
        return found;
    }

    public int broken(int piece, int v) {
        if (!plan.hasPiece(piece) || !inRange(v, 1, MOST_BROKEN_AT_ONCE)) {
            return NONE;
        }
        if (rope.wires[piece] + v > MOST_WIRES) {
            return NONE;
        }
        rope.wires[piece] += v;
        return rope.wires[piece];
    }

    public int bent(int piece) {
        return plan.hasPiece(piece) ? rope.bends[piece] : NONE;
    }

    public int off() {
        int worn = rope.firstWorn(plan.n, plan.numbers[LIFE]);
        if (worn != NONE) {
            return WORN + worn;
        }
        int frayed = rope.firstFrayed(plan.n, plan.numbers[SPAN], plan.numbers[LIMIT]);
        return frayed != NONE ? FRAYED + frayed : 0;
    }

    private static boolean inRange(int v, int least, int most) {
        return v >= least && v <= most;
    }

    private int howMany(int state) {
        int many = 0;
        for (int who = 0; who < plan.people; who++) {
            if (live.states[who] == state) {
                many++;
            }
        }
        return many;
    }

    private int allBits() {
        return (1 << listed) - 1;
    }

    private int tryDay(int bits) {
        int rides = sortStarts(bits);
        trial.startAnew();
        for (int i = 0; i < rides; i++) {
            trial.travel(plan, Math.max(starts[i], trial.end));
        }
        return trial.waited + trial.stillWaiting(plan);
    }

    private int sortStarts(int bits) {
        int many = 0;
        for (int i = 0; i < listed; i++) {
            if ((bits >> i & 1) == 1) {
                int spot = many;
                while (spot > 0 && starts[spot - 1] > list[i]) {
                    starts[spot] = starts[spot - 1];
                    spot--;
                }
                starts[spot] = list[i];
                many++;
            }
        }
        return many;
    }

    /** What rides read and never change: the places, the numbers set, and who wishes to go where. */
    private static final class Plan {
        final int[] numbers = AT_FIRST.clone();
        final int[] heights = new int[MOST_TOP + 1];
        final boolean[] halts = new boolean[MOST_TOP + 1];
        final int[] from = new int[MOST_PEOPLE];
        final int[] to = new int[MOST_PEOPLE];
        final int[] minutes = new int[MOST_PEOPLE];
        /* People by place, minute and number: a stop then looks only at its own place's people, in the
           order in which they board. Those from place p stand at queueAt[p] .. queueAt[p + 1] - 1. */
        final int[] queue = new int[MOST_PEOPLE];
        final int[] queueAt = new int[MOST_TOP + 2];
        int n = TOP_AT_FIRST;
        int people = 0;

        void lay(int top) {
            n = top;
            for (int place = 0; place <= MOST_TOP; place++) {
                heights[place] = RISE_AT_FIRST * place;
                halts[place] = place == 0 || place == top;
            }
            people = 0;
            Arrays.fill(queueAt, 0);
        }

        boolean hasPlace(int place) {
            return place >= 0 && place <= n;
        }

        boolean hasPiece(int piece) {
            return piece >= 0 && piece < n;
        }

        boolean isHalt(int place) {
            return hasPlace(place) && halts[place];
        }

        boolean isWanted(int place) {
            for (int who = 0; who < people; who++) {
                if (from[who] == place || to[who] == place) {
                    return true;
                }
            }
            return false;
        }

        int add(int start, int goal, int minute) {
            int who = people;
            from[who] = start;
            to[who] = goal;
            minutes[who] = minute;
            enqueue(who);
            people++;
            return who;
        }

        private void enqueue(int who) {
            int start = from[who];
            int spot = people;
            while (spot > queueAt[start] && isBehind(queue[spot - 1], who)) {
                queue[spot] = queue[spot - 1];
                spot--;
            }
            queue[spot] = who;
            for (int place = start + 1; place < queueAt.length; place++) {
                queueAt[place]++;
            }
        }

        private boolean isBehind(int other, int who) {
            return from[other] > from[who] || minutes[other] > minutes[who];
        }
    }

    /** One of the two cars: where it is, which way it goes and who is in it. */
    private static final class Car {
        final int stateInside;
        final int[] riders = new int[MOST_ROOM];
        int load = 0;
        int place = 0;
        int way = 1;

        Car(int stateInside) {
            this.stateInside = stateInside;
        }

        void begin(int start, int direction) {
            place = start;
            way = direction;
        }

        boolean carriesSomebodyHere(Plan plan) {
            for (int i = 0; i < load; i++) {
                if (plan.to[riders[i]] == place) {
                    return true;
                }
            }
            return false;
        }

        boolean hasRoom(Plan plan) {
            return load < plan.numbers[ROOM] && load < riders.length;
        }

        int pullOfNextStep(Plan plan) {
            int weight = plan.numbers[EMPTY] + plan.numbers[PERSON] * load;
            return weight * (plan.heights[place + way] - plan.heights[place]);
        }
    }

    /** The cars, how far all people have got, and what the latest ride was like. */
    private static final class Traffic {
        final Car a = new Car(IN_A);
        final Car b = new Car(IN_B);
        final int[] states = new int[MOST_PEOPLE];
        final int[] boarded = new int[MOST_PEOPLE];
        final int[] came = new int[MOST_PEOPLE];
        int end = 0;
        int rides = 0;
        int waited = 0;
        int stops = 0;
        int idle = 0;
        int heavy = 0;
        int greatestPull = 0;
        int greatestStep = 0;
        int newcomers = 0;
        int duration = 0;

        void startAnew() {
            /* People who are added later find their rows fresh as well. */
            Arrays.fill(states, WAITS);
            Arrays.fill(boarded, NONE);
            Arrays.fill(came, NONE);
            a.load = 0;
            b.load = 0;
            a.begin(0, 1);
            end = 0;
            rides = 0;
            waited = 0;
        }

        void travel(Plan plan, int t) {
            int way = a.place == 0 ? 1 : -1;
            a.begin(way > 0 ? 0 : plan.n, way);
            b.begin(plan.n - a.place, -way);
            forgetLatest();
            int time = t;
            serveBoth(plan, time);
            for (int step = 0; step < plan.n; step++) {
                if (step > 0 && noteStop(plan, time)) {
                    serveBoth(plan, time);
                    time++;
                }
                notePull(plan, step);
                a.place += way;
                b.place -= way;
                time += plan.numbers[RUN];
            }
            /* Nobody boards here: from an end no halt lies farther on. */
            serveBoth(plan, time);
            duration = time - t;
            end = time;
            rides++;
        }

        int stillWaiting(Plan plan) {
            int sum = 0;
            for (int who = 0; who < plan.people; who++) {
                if (states[who] == WAITS) {
                    sum += Math.max(0, end - plan.minutes[who]);
                }
            }
            return sum;
        }

        private void forgetLatest() {
            stops = 0;
            idle = 0;
            heavy = 0;
            greatestPull = 0;
            greatestStep = 0;
            newcomers = 0;
        }

        private boolean noteStop(Plan plan, int time) {
            boolean useOfA = hasUse(plan, a, time);
            boolean useOfB = hasUse(plan, b, time);
            if (!useOfA && !useOfB) {
                return false;
            }
            stops++;
            if (!useOfA || !useOfB) {
                idle++;
            }
            return true;
        }

        private void notePull(Plan plan, int step) {
            int size = Math.abs(a.pullOfNextStep(plan) + b.pullOfNextStep(plan));
            if (size > plan.numbers[MOTOR]) {
                heavy++;
            }
            if (size > greatestPull) {
                greatestPull = size;
                greatestStep = step;
            }
        }

        private boolean hasUse(Plan plan, Car car, int time) {
            if (!plan.halts[car.place]) {
                return false;
            }
            if (car.carriesSomebodyHere(plan)) {
                return true;
            }
            return car.hasRoom(plan) && somebodyWaits(plan, car, time);
        }

        private boolean somebodyWaits(Plan plan, Car car, int time) {
            for (int i = plan.queueAt[car.place]; i < plan.queueAt[car.place + 1]; i++) {
                if (wouldBoard(plan, car, plan.queue[i], time)) {
                    return true;
                }
            }
            return false;
        }

        private boolean wouldBoard(Plan plan, Car car, int who, int time) {
            boolean onItsWay = (plan.to[who] - car.place) * car.way > 0;
            return onItsWay && states[who] == WAITS && plan.minutes[who] <= time;
        }

        private void serveBoth(Plan plan, int time) {
            serve(plan, a, time);
            serve(plan, b, time);
        }

        private void serve(Plan plan, Car car, int time) {
            if (plan.halts[car.place]) {
                letOff(plan, car, time);
                letOn(plan, car, time);
            }
        }

        private void letOff(Plan plan, Car car, int time) {
            int staying = 0;
            for (int i = 0; i < car.load; i++) {
                int who = car.riders[i];
                if (plan.to[who] == car.place) {
                    states[who] = HAS_COME;
                    came[who] = time;
                } else {
                    car.riders[staying] = who;
                    staying++;
                }
            }
            car.load = staying;
        }

        private void letOn(Plan plan, Car car, int time) {
            int last = plan.queueAt[car.place + 1];
            for (int i = plan.queueAt[car.place]; i < last && car.hasRoom(plan); i++) {
                int who = plan.queue[i];
                if (wouldBoard(plan, car, who, time)) {
                    states[who] = car.stateInside;
                    boarded[who] = time;
                    waited += time - plan.minutes[who];
                    newcomers++;
                    car.riders[car.load] = who;
                    car.load++;
                }
            }
        }
    }

    /** How often each piece of the rope was bent, and how many of its wires are broken. */
    private static final class Rope {
        final int[] bends = new int[MOST_TOP];
        final int[] wires = new int[MOST_TOP];

        void unbend() {
            Arrays.fill(bends, 0);
        }

        void mend() {
            Arrays.fill(wires, 0);
        }

        /* A ride goes from one end to the other, so it bends every piece once. */
        void bendAll(int pieces) {
            for (int piece = 0; piece < pieces; piece++) {
                bends[piece]++;
            }
        }

        int firstWorn(int pieces, int life) {
            for (int piece = 0; piece < pieces; piece++) {
                if (bends[piece] > life) {
                    return piece;
                }
            }
            return NONE;
        }

        /* No span has fewer wires broken than a shorter one from the same piece: the longest will do. */
        int firstFrayed(int pieces, int span, int limit) {
            for (int first = 0; first < pieces; first++) {
                if (wiresFrom(first, Math.min(first + span, pieces)) >= limit) {
                    return first;
                }
            }
            return NONE;
        }

        private int wiresFrom(int first, int behindLast) {
            int sum = 0;
            for (int piece = first; piece < behindLast; piece++) {
                sum += wires[piece];
            }
            return sum;
        }
    }
}
