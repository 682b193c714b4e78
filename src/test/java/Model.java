import java.util.ArrayDeque;
import java.util.ArrayList;
import java.util.Deque;
import java.util.HashMap;
import java.util.HashSet;
import java.util.List;
import java.util.Map;
import java.util.Set;
import java.util.TreeSet;

/** The document once more, slow and with the whole library, so that two tellings can be compared. */
final class Model {
    static final long NO_SUCH = Check.NO_SUCH;
    static final long BAD = Check.BAD_ARGUMENT;

    interface Expr {
        int of(World world, Monk monk);
    }

    static final class Room {
        int verse;
        int[] doors = new int[2];
    }

    static final class Monk {
        int number;
        int voice;
        int sleep;
        int fish;
        int room;
        boolean tied;
        boolean last;
        Set<Integer> met = new TreeSet<>();
    }

    /** What was to be seen in one night: the room of each one who was up. */
    static final class Seen {
        Map<Integer, Integer> rooms = new HashMap<>();
        int matins;
        int shortVoices;

        boolean has(int monk) {
            return rooms.containsKey(monk);
        }
    }

    static final class World {
        List<Room> rooms = new ArrayList<>();
        List<Monk> monks = new ArrayList<>();
        int tires = 20;
        int rests = 10;
        int night = 0;
        Expr dreams = null;

        World copy() {
            World w = new World();
            for (Room r : rooms) {
                Room c = new Room();
                c.verse = r.verse;
                c.doors = r.doors.clone();
                w.rooms.add(c);
            }
            for (Monk m : monks) {
                Monk c = new Monk();
                c.number = m.number;
                c.voice = m.voice;
                c.sleep = m.sleep;
                c.fish = m.fish;
                c.room = m.room;
                c.tied = m.tied;
                c.last = m.last;
                c.met = new TreeSet<>(m.met);
                w.monks.add(c);
            }
            w.tires = tires;
            w.rests = rests;
            w.night = night;
            w.dreams = dreams;
            return w;
        }

        boolean isUp(Monk m) {
            return !m.tied && (dreams == null ? m.sleep >= 50 : dreams.of(this, m) > 0);
        }

        Seen pass() {
            Seen seen = new Seen();
            Set<Integer> voices = new HashSet<>();
            Set<Integer> upVoices = new HashSet<>();
            for (Monk m : monks) {
                voices.add(m.voice);
                if (isUp(m)) {
                    seen.rooms.put(m.number, m.room);
                    seen.matins += rooms.get(m.room).verse;
                    upVoices.add(m.voice);
                }
            }
            voices.removeAll(upVoices);
            for (int v : voices) {
                seen.shortVoices |= 1 << v;
            }
            for (Monk m : monks) {
                for (Monk o : monks) {
                    if (m != o && seen.has(m.number) && seen.has(o.number) && m.room == o.room) {
                        m.met.add(o.number);
                    }
                }
            }
            Map<Integer, Integer> next = new HashMap<>();
            for (Monk m : monks) {
                m.last = seen.has(m.number);
                if (m.last) {
                    m.sleep = m.sleep < tires ? 0 : m.sleep - tires;
                    next.put(m.number, rooms.get(m.room).doors[m.fish > 0 ? 1 : 0]);
                } else {
                    m.sleep = m.sleep + rests > 99 ? 99 : m.sleep + rests;
                }
                if (m.fish > 0) {
                    m.fish--;
                }
            }
            next.forEach((m, r) -> monks.get(m).room = r);
            night++;
            return seen;
        }

        /** The k nights from now on; the world itself stays. */
        List<Seen> ahead(int k, World[] end) {
            World w = copy();
            List<Seen> all = new ArrayList<>();
            for (int i = 0; i < k; i++) {
                all.add(w.pass());
            }
            if (end != null) {
                end[0] = w;
            }
            return all;
        }

        World behind(int k) {
            World[] end = new World[1];
            ahead(k, end);
            return end[0];
        }

        int metCouples() {
            int many = 0;
            for (Monk m : monks) {
                for (int o : m.met) {
                    many += o > m.number ? 1 : 0;
                }
            }
            return many;
        }
    }

    World world = new World();
    Deque<World> acts = new ArrayDeque<>();
    List<int[]> heard = new ArrayList<>();
    int[] status = new int[3];
    private World imageWorld;
    private List<World> imageActs;
    private List<int[]> imageHeard;
    private int[] imageStatus;

    void house(World w) {
        world = w;
        acts.clear();
        heard.clear();
        imageWorld = null;
    }

    private boolean noMonk(int m) {
        return m < 0 || m >= world.monks.size();
    }

    private boolean noRoom(int r) {
        return r < 0 || r >= world.rooms.size();
    }

    private static boolean not(int n, int least, int most) {
        return n < least || n > most;
    }

    private void act() {
        acts.addLast(world.copy());
        if (acts.size() > 40) {
            acts.removeFirst();
        }
    }

    private long refuse() {
        status[1]++;
        return -1;
    }

    long count(int what) {
        long bits = 0;
        switch (what) {
            case 0: return world.rooms.size();
            case 1: return world.monks.size();
            case 2: return world.tires;
            case 3: return world.rests;
            case 4: return world.night;
            case 5: for (Monk m : world.monks) bits |= m.last ? 1 << m.number : 0; return bits;
            case 6: for (Monk m : world.monks) bits |= m.tied ? 1 << m.number : 0; return bits;
            case 7: for (Monk m : world.monks) bits |= m.met.isEmpty() ? 1 << m.number : 0; return bits;
            case 8: return world.metCouples();
            case 9: return acts.size();
            case 10: return heard.size();
            case 12: case 13: case 14: return status[what - 12];
            default: return NO_SUCH;
        }
    }

    long room(int r, int what) {
        if (noRoom(r) || not(what, 0, 3)) return NO_SUCH;
        if (what == 0) return world.rooms.get(r).verse;
        if (what < 3) return world.rooms.get(r).doors[what - 1];
        long bits = 0;
        for (Monk m : world.monks) bits |= m.room == r ? 1 << m.number : 0;
        return bits;
    }

    long monk(int n, int what) {
        if (noMonk(n) || not(what, 0, 5)) return NO_SUCH;
        Monk m = world.monks.get(n);
        long bits = 0;
        for (int o : m.met) bits |= 1 << o;
        return new long[] {m.voice, m.sleep, m.fish, m.room, bits, world.isUp(m) ? 1 : 0}[what];
    }

    long nights(int many) {
        if (not(many, 1, 20) || world.night + many > 999) return refuse();
        act();
        for (int i = 0; i < many; i++) world.pass();
        return world.night;
    }

    long fish(int n, int more) {
        if (noMonk(n)) return NO_SUCH;
        if (not(more, 1, 9)) return refuse();
        act();
        Monk m = world.monks.get(n);
        m.fish = Math.min(9, m.fish + more);
        return m.fish;
    }

    long pray(int n, int sleep) {
        if (noMonk(n)) return NO_SUCH;
        if (not(sleep, 0, 99)) return refuse();
        act();
        Monk m = world.monks.get(n);
        int was = m.sleep;
        m.sleep = sleep;
        return was;
    }

    long tie(int n, boolean is) {
        if (noMonk(n)) return NO_SUCH;
        if (world.monks.get(n).tied == is) {
            refuse();
            return 0;
        }
        act();
        world.monks.get(n).tied = is;
        return 1;
    }

    long move(int n, int r) {
        if (noMonk(n) || noRoom(r)) return NO_SUCH;
        Monk m = world.monks.get(n);
        if (m.room == r) return refuse();
        act();
        int was = m.room;
        m.room = r;
        return was;
    }

    long door(int r, boolean wet, int to) {
        if (noRoom(r) || noRoom(to)) return NO_SUCH;
        int[] doors = world.rooms.get(r).doors;
        int at = wet ? 1 : 0;
        if (doors[at] == to) return refuse();
        act();
        int was = doors[at];
        doors[at] = to;
        return was;
    }

    long undo() {
        if (acts.isEmpty()) return -1;
        world = acts.removeLast();
        return acts.size();
    }

    long up(int k, int what) {
        if (not(what, 0, 2)) return NO_SUCH;
        if (not(k, 1, 60)) return BAD;
        Seen seen = world.ahead(k, null).get(k - 1);
        if (what == 1) return seen.matins;
        if (what == 2) return seen.shortVoices;
        long bits = 0;
        for (int m : seen.rooms.keySet()) bits |= 1 << m;
        return bits;
    }

    long then(int n, int nights, int what) {
        if (noMonk(n) || not(what, 0, 1)) return NO_SUCH;
        if (not(nights, 0, 60)) return BAD;
        Monk m = world.behind(nights).monks.get(n);
        return what == 0 ? m.room : m.sleep;
    }

    long full() {
        int k = 0;
        for (Seen seen : world.ahead(60, null)) {
            k++;
            if (seen.shortVoices == 0) return k;
        }
        return -1;
    }

    long silent() {
        int k = 0;
        for (Seen seen : world.ahead(60, null)) {
            k++;
            if (seen.rooms.isEmpty()) return k;
        }
        return -1;
    }

    long meets(int n, int o) {
        if (noMonk(n) || noMonk(o)) return NO_SUCH;
        for (int k = 0; k <= 60; k++) {
            if (world.behind(k).monks.get(n).met.contains(o)) return k;
        }
        return -1;
    }

    long often(int n, int nights) {
        if (noMonk(n)) return NO_SUCH;
        if (not(nights, 0, 60)) return BAD;
        return world.ahead(nights, null).stream().filter(s -> s.has(n)).count();
    }

    long ring(int r, boolean wet, int what) {
        if (noRoom(r) || not(what, 0, 1)) return NO_SUCH;
        List<Integer> way = new ArrayList<>();
        int at = r;
        while (!way.contains(at)) {
            way.add(at);
            at = world.rooms.get(at).doors[wet ? 1 : 0];
        }
        int into = way.indexOf(at);
        return what == 0 ? way.size() - into : into;
    }

    long from(int r) {
        if (noRoom(r)) return NO_SUCH;
        Set<Integer> reached = new HashSet<>();
        Deque<Integer> open = new ArrayDeque<>(List.of(r));
        while (!open.isEmpty()) {
            int at = open.removeFirst();
            if (reached.add(at)) {
                for (int d : world.rooms.get(at).doors) open.addLast(d);
            }
        }
        long bits = 0;
        for (int at : reached) bits |= 1 << at;
        return bits;
    }

    long meeting(int what) {
        if (not(what, 0, 1)) return NO_SUCH;
        for (int steps = 0; steps <= 80; steps++) {
            for (int r = 0; r < world.rooms.size(); r++) {
                boolean all = true;
                Set<Integer> ahead = comingFrom(r, steps);
                for (Monk m : world.monks) all &= ahead.contains(m.room);
                if (all) return what == 0 ? r : steps;
            }
        }
        return -1;
    }

    /** The rooms from which one can come into r by just so many steps: backwards, unlike the class. */
    private Set<Integer> comingFrom(int r, int steps) {
        Set<Integer> at = new HashSet<>(List.of(r));
        for (int i = 0; i < steps; i++) {
            Set<Integer> ahead = new HashSet<>();
            for (int a = 0; a < world.rooms.size(); a++) {
                for (int d : world.rooms.get(a).doors) {
                    if (at.contains(d)) ahead.add(a);
                }
            }
            at = ahead;
        }
        return at;
    }

    /** All rows, the least sum first, of like ones the first row. */
    long leastFish(int n) {
        if (n != -1 && noMonk(n)) return NO_SUCH;
        int[] best = null;
        int least = Integer.MAX_VALUE;
        int many = world.monks.size();
        int[] row = new int[many];
        while (true) {
            int sum = 0;
            World w = world.copy();
            boolean can = true;
            for (int i = 0; i < many; i++) {
                sum += row[i];
                w.monks.get(i).fish += row[i];
                can &= w.monks.get(i).fish <= 9;
            }
            if (can && sum < least && w.pass().shortVoices == 0) {
                least = sum;
                best = row.clone();
            }
            int at = many - 1;
            while (at >= 0 && row[at] == 9) {
                row[at--] = 0;
            }
            if (at < 0) break;
            row[at]++;
        }
        if (best == null) return -1;
        return n == -1 ? least : best[n];
    }

    long choir() {
        int all = 0;
        for (Monk m : world.monks) all |= 1 << m.voice;
        int best = (1 << world.monks.size()) - 1;
        for (int bits = best; bits >= 0; bits--) {
            int has = 0;
            for (Monk m : world.monks) has |= (bits >> m.number & 1) << m.voice;
            if (has == all && Integer.bitCount(bits) <= Integer.bitCount(best)) best = bits;
        }
        return best;
    }

    long couples() {
        return couplesWithout(new HashSet<>(), 0);
    }

    private int couplesWithout(Set<Integer> used, int fromMonk) {
        int best = 0;
        for (int a = fromMonk; a < world.monks.size(); a++) {
            for (int b : world.monks.get(a).met) {
                if (b > a && !used.contains(a) && !used.contains(b)) {
                    Set<Integer> more = new HashSet<>(used);
                    more.add(a);
                    more.add(b);
                    best = Math.max(best, 1 + couplesWithout(more, a + 1));
                }
            }
        }
        return best;
    }

    long lonely(int k) {
        if (not(k, 1, 60)) return BAD;
        Seen seen = world.ahead(k, null).get(k - 1);
        long bits = 0;
        for (Map.Entry<Integer, Integer> e : seen.rooms.entrySet()) {
            long there = seen.rooms.values().stream().filter(r -> r.equals(e.getValue())).count();
            bits |= there == 1 ? 1 << e.getKey() : 0;
        }
        return bits;
    }

    long crowd(int nights) {
        if (not(nights, 0, 60)) return BAD;
        World w = world.behind(nights);
        int[] many = new int[9];
        for (Monk m : w.monks) many[m.room]++;
        int best = -1;
        for (int r = 8; r >= 0; r--) {
            if (many[r] > 0 && (best < 0 || many[r] >= many[best])) best = r;
        }
        return best;
    }

    long spread(int nights) {
        if (not(nights, 0, 60)) return BAD;
        Set<Integer> rooms = new HashSet<>();
        for (Monk m : world.behind(nights).monks) rooms.add(m.room);
        return rooms.size();
    }

    long toPray(int n, int k) {
        if (noMonk(n)) return NO_SUCH;
        if (not(k, 1, 60)) return BAD;
        for (int s = 0; s <= 99; s++) {
            World w = world.copy();
            w.monks.get(n).sleep = s;
            if (w.ahead(k, null).get(k - 1).has(n)) return s;
        }
        return -1;
    }

    long needless(int nights) {
        if (not(nights, 0, 60)) return BAD;
        long now = fullOnes(world, nights);
        long bits = 0;
        for (Monk m : world.monks) {
            World w = world.copy();
            w.monks.get(m.number).tied = true;
            bits |= !m.tied && fullOnes(w, nights) >= now ? 1 << m.number : 0;
        }
        return bits;
    }

    private static long fullOnes(World w, int nights) {
        return w.ahead(nights, null).stream().filter(s -> s.shortVoices == 0).count();
    }

    long psalm(int nights) {
        if (not(nights, 0, 60)) return BAD;
        Map<Integer, Integer> many = new HashMap<>();
        for (Seen s : world.ahead(nights, null)) {
            for (int r : s.rooms.values()) many.merge(world.rooms.get(r).verse, 1, Integer::sum);
        }
        int best = -1;
        for (int v : new TreeSet<>(many.keySet())) {
            if (best < 0 || many.get(v) > many.get(best)) best = v;
        }
        return best;
    }

    long hear(int k, int verse, boolean is) {
        if (heard.size() == 8 || not(k, 1, 20) || not(verse, 0, 99)) {
            status[2]++;
            return -1;
        }
        heard.add(new int[] {k, verse, is ? 1 : 0});
        return heard.size();
    }

    private boolean allHeard(World w) {
        List<Seen> ahead = w.ahead(20, null);
        for (int[] h : heard) {
            boolean sung = false;
            for (int r : ahead.get(h[0] - 1).rooms.values()) sung |= w.rooms.get(r).verse == h[1];
            if (sung != (h[2] == 1)) return false;
        }
        return true;
    }

    private List<World> eatenWorlds(List<Integer> names) {
        List<World> all = new ArrayList<>();
        for (Monk m : world.monks) {
            for (int f = 0; f <= 9; f++) {
                World w = world.copy();
                w.monks.get(m.number).fish = f;
                if (f != m.fish && allHeard(w)) {
                    all.add(w);
                    names.add(10 * m.number + f);
                }
            }
        }
        return all;
    }

    long eaten(int what) {
        if (not(what, 0, 2)) return NO_SUCH;
        if (what == 2) return allHeard(world) ? 1 : 0;
        List<Integer> names = new ArrayList<>();
        eatenWorlds(names);
        if (what == 0) return names.size();
        return names.isEmpty() ? -1 : names.get(0);
    }

    long listen(int what) {
        if (not(what, 0, 1)) return NO_SUCH;
        List<World> all = eatenWorlds(new ArrayList<>());
        int best = -1;
        int most = 0;
        for (int k = 1; k <= 20; k++) {
            Set<Integer> unlike = new HashSet<>();
            for (World w : all) unlike.add(w.ahead(k, null).get(k - 1).matins);
            if (unlike.size() > most) {
                most = unlike.size();
                best = k;
            }
        }
        return what == 0 ? best : most;
    }

    void forget() {
        heard.clear();
    }

    private int[] gains(int n, int o, int a, int b) {
        World w = world.copy();
        int[] gain = new int[2];
        int[] who = {n, o};
        int[] choice = {a, b};
        for (int i = 0; i < 2; i++) {
            Monk m = w.monks.get(who[i]);
            if (choice[i] == 0) {
                m.fish = Math.min(9, m.fish + 3);
                gain[i]--;
            } else {
                m.sleep = 99;
            }
        }
        for (Seen s : w.ahead(10, null)) {
            boolean both = s.has(n) && s.has(o) && s.rooms.get(n).equals(s.rooms.get(o));
            for (int i = 0; i < 2; i++) {
                gain[i] += (s.has(who[i]) ? 1 : 0) + (both ? 3 : 0);
            }
        }
        return gain;
    }

    long game(int n, int o, int what) {
        if (noMonk(n) || noMonk(o) || not(what, 0, 1)) return NO_SUCH;
        if (n == o) return BAD;
        List<Integer> rest = new ArrayList<>();
        for (int a = 0; a < 2; a++) {
            for (int b = 0; b < 2; b++) {
                if (gains(n, o, 1 - a, b)[0] <= gains(n, o, a, b)[0]
                        && gains(n, o, a, 1 - b)[1] <= gains(n, o, a, b)[1]) {
                    rest.add(10 * a + b);
                }
            }
        }
        if (what == 0) return rest.size();
        return rest.isEmpty() ? -1 : rest.get(0);
    }

    private long seed;

    private int draw(int n) {
        seed = seed * 1103515245L + 12345L;
        return (int) ((seed & 0x7fffffffL) >> 16) % n;
    }

    long years(int aSeed, int n, int what) {
        if (not(what, 0, 2)) return NO_SUCH;
        if (not(n, 0, 60)) return BAD;
        World w = world.copy();
        seed = aSeed;
        long full = 0;
        long matins = 0;
        for (int i = 0; i < n; i++) {
            int event = draw(5);
            if (event <= 1 && !w.monks.isEmpty()) {
                Monk m = w.monks.get(draw(w.monks.size()));
                if (event == 0) {
                    m.fish = Math.min(9, m.fish + 2);
                } else {
                    m.sleep = 99;
                }
            }
            Seen s = w.pass();
            full += s.shortVoices == 0 ? 1 : 0;
            matins += s.matins;
        }
        return new long[] {full, matins, w.metCouples()}[what];
    }

    void image() {
        imageWorld = world.copy();
        imageActs = new ArrayList<>();
        for (World w : acts) imageActs.add(w.copy());
        imageHeard = new ArrayList<>(heard);
        imageStatus = status.clone();
    }

    long restore() {
        if (imageWorld == null) return 0;
        world = imageWorld.copy();
        acts.clear();
        for (World w : imageActs) acts.addLast(w.copy());
        heard = new ArrayList<>(imageHeard);
        status = imageStatus.clone();
        return 1;
    }
}
