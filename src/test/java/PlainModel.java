import java.util.ArrayDeque;
import java.util.ArrayList;
import java.util.Deque;
import java.util.HashMap;
import java.util.HashSet;
import java.util.List;
import java.util.Map;
import java.util.Set;
import java.util.TreeSet;

/**
 * A second program for the document, built in another way: sets of updates instead of bits, the whole set of causes of
 * each update instead of a search for prefixes, recursion instead of loops. ModelTest compares the two.
 */
public final class PlainModel {
    private static final int INVALID = -1;
    private static final int ILLEGAL = -2;
    private static final int FULL = -3;
    private static final int NONE = -9;

    private static final class Proxy {
        int parent;
        Set<Integer> known = new TreeSet<>();
        List<Integer> kept = new ArrayList<>();
        List<Integer> up = new ArrayList<>();
        List<Integer> down = new ArrayList<>();

        Proxy copy() {
            Proxy copy = new Proxy();
            copy.parent = parent;
            copy.known = new TreeSet<>(known);
            copy.kept = new ArrayList<>(kept);
            copy.up = new ArrayList<>(up);
            copy.down = new ArrayList<>(down);
            return copy;
        }
    }

    private static final class World {
        List<Proxy> proxies = new ArrayList<>();
        int[] homes = new int[4];
        int[] written = new int[4];
        Map<Integer, int[]> vectors = new HashMap<>();
        /** For each update: itself, its causes, their causes, and so on. */
        Map<Integer, Set<Integer>> needs = new HashMap<>();
        int ranges = 8;
        int memory = 12;
        int refused;
        int overflows;
        int lost;
        int evictions;

        World copy() {
            World copy = new World();
            for (Proxy proxy : proxies) {
                copy.proxies.add(proxy.copy());
            }
            copy.homes = homes.clone();
            copy.written = written.clone();
            copy.vectors = new HashMap<>(vectors);
            copy.needs = new HashMap<>(needs);
            copy.ranges = ranges;
            copy.memory = memory;
            copy.refused = refused;
            copy.overflows = overflows;
            copy.lost = lost;
            copy.evictions = evictions;
            return copy;
        }
    }

    private World world = new World();
    private final Deque<World> saved = new ArrayDeque<>();
    private String text = "";

    public PlainModel() {
        world.proxies.add(new Proxy());
    }

    private boolean isProxy(int proxy) {
        return proxy >= 0 && proxy < world.proxies.size();
    }

    private boolean isOrigin(int origin) {
        return origin >= 0 && origin <= 3;
    }

    private boolean isUpdate(int origin, int version) {
        return isOrigin(origin) && version >= 1 && version <= world.written[origin];
    }

    private void save(World before) {
        saved.addLast(before);
        if (saved.size() > 6) {
            saved.removeFirst();
        }
    }

    private List<Integer> above(int proxy) {
        List<Integer> above = new ArrayList<>();
        while (proxy != 0) {
            proxy = world.proxies.get(proxy).parent;
            above.add(proxy);
        }
        return above;
    }

    private boolean servesOne(int proxy, int update) {
        Set<Integer> needs = world.needs.get(update);
        return needs != null && world.proxies.get(proxy).known.containsAll(needs);
    }

    private int prefix(int proxy, int origin) {
        int version = 0;
        while (servesOne(proxy, 100 * origin + version + 1)) {
            version++;
        }
        return version;
    }

    private int boundOf(Set<Integer> known, int origin) {
        int bound = 0;
        for (int update : known) {
            if (update / 100 == origin) {
                bound = Math.max(bound, update % 100);
            }
        }
        return bound;
    }

    private List<Integer> gaps(Set<Integer> known, int origin) {
        List<Integer> gaps = new ArrayList<>();
        for (int version = 1; version < boundOf(known, origin); version++) {
            if (!known.contains(100 * origin + version)) {
                gaps.add(version);
            }
        }
        return gaps;
    }

    private int rangesOf(Set<Integer> known, int origin) {
        int ranges = 0;
        int last = -1;
        for (int version : gaps(known, origin)) {
            if (version != last + 1 || last == -1) {
                ranges++;
            }
            last = version;
        }
        return ranges;
    }

    private int allRanges(Set<Integer> known) {
        return rangesOf(known, 0) + rangesOf(known, 1) + rangesOf(known, 2) + rangesOf(known, 3);
    }

    public int addProxy(int parent) {
        if (!isProxy(parent)) {
            return INVALID;
        }
        if (world.proxies.size() == 8) {
            return FULL;
        }
        save(world.copy());
        Proxy added = new Proxy();
        added.parent = parent;
        world.proxies.add(added);
        return world.proxies.size() - 1;
    }

    public int setHome(int origin, int proxy) {
        if (!isOrigin(origin) || !isProxy(proxy)) {
            return INVALID;
        }
        if (world.written[origin] != 0) {
            return ILLEGAL;
        }
        save(world.copy());
        int before = world.homes[origin];
        world.homes[origin] = proxy;
        return before;
    }

    public int setLimits(int ranges, int memory) {
        if (ranges < 0 || ranges > 8 || memory < 1 || memory > 12) {
            return INVALID;
        }
        save(world.copy());
        boolean same = world.ranges == ranges && world.memory == memory;
        world.ranges = ranges;
        world.memory = memory;
        return same ? 0 : 1;
    }

    public int proxy(int proxy, int what) {
        if (!isProxy(proxy) || what < 0 || what > 7) {
            return INVALID;
        }
        Proxy it = world.proxies.get(proxy);
        int children = 0;
        for (int child = 1; child < world.proxies.size(); child++) {
            children += world.proxies.get(child).parent == proxy ? 1 : 0;
        }
        int origins = 0;
        int gaps = 0;
        int serves = 0;
        for (int origin = 0; origin < 4; origin++) {
            origins += boundOf(it.known, origin) > 0 ? 1 : 0;
            gaps += gaps(it.known, origin).size();
            serves += prefix(proxy, origin);
        }
        int[] answers = {
            proxy == 0 ? NONE : it.parent, above(proxy).size(), children, it.known.size(), serves, it.kept.size(),
            origins + allRanges(it.known), gaps
        };
        return answers[what];
    }

    public int count(int what) {
        int written = world.written[0] + world.written[1] + world.written[2] + world.written[3];
        int[] answers = {
            world.proxies.size(), world.ranges, world.memory, written, world.refused, world.overflows, world.lost,
            world.evictions, saved.size()
        };
        return what < 0 || what >= answers.length ? INVALID : answers[what];
    }

    private int writeOne(int origin) {
        if (!isOrigin(origin)) {
            return INVALID;
        }
        if (world.written[origin] == 24) {
            return FULL;
        }
        int home = world.homes[origin];
        int version = world.written[origin] + 1;
        int[] vector = new int[4];
        Set<Integer> needs = new HashSet<>();
        for (int of = 0; of < 4; of++) {
            vector[of] = of == origin ? version - 1 : prefix(home, of);
            for (int cause = 1; cause <= vector[of]; cause++) {
                needs.addAll(world.needs.get(100 * of + cause));
            }
        }
        int update = 100 * origin + version;
        needs.add(update);
        world.vectors.put(update, vector);
        world.needs.put(update, needs);
        world.written[origin] = version;
        learn(home, -1, update);
        return version;
    }

    private boolean arrive(int proxy, int from, int update) {
        Proxy it = world.proxies.get(proxy);
        if (it.known.contains(update)) {
            return false;
        }
        Set<Integer> with = new TreeSet<>(it.known);
        with.add(update);
        if (proxy > 0 && allRanges(with) > world.ranges) {
            world.refused++;
            return false;
        }
        learn(proxy, from, update);
        return true;
    }

    private void learn(int proxy, int from, int update) {
        Proxy it = world.proxies.get(proxy);
        it.known.add(update);
        keep(proxy, update);
        if (proxy > 0 && it.parent != from) {
            put(it.up, update);
        }
        for (int child = 1; child < world.proxies.size(); child++) {
            if (world.proxies.get(child).parent == proxy && child != from) {
                put(world.proxies.get(child).down, update);
            }
        }
    }

    private void put(List<Integer> queue, int update) {
        if (queue.size() == 12) {
            world.overflows++;
        } else {
            queue.add(update);
        }
    }

    private void keep(int proxy, int update) {
        List<Integer> kept = world.proxies.get(proxy).kept;
        kept.add(update);
        if (proxy == 0 || kept.size() <= world.memory) {
            return;
        }
        Integer victim = kept.get(0);
        for (int i = kept.size() - 1; i >= 0; i--) {
            if (servesOne(proxy, kept.get(i))) {
                victim = kept.get(i);
            }
        }
        kept.remove(victim);
        world.evictions++;
    }

    public int write(int origin) {
        World before = world.copy();
        int answer = writeOne(origin);
        if (answer >= 0) {
            save(before);
        }
        return answer;
    }

    public int cause(int origin, int version, int of) {
        return isUpdate(origin, version) && isOrigin(of) ? world.vectors.get(100 * origin + version)[of] : INVALID;
    }

    private List<Integer> queue(int child, int direction) {
        Proxy it = world.proxies.get(child);
        return direction == 0 ? it.up : it.down;
    }

    private boolean isQueue(int child, int direction) {
        return isProxy(child) && child != 0 && (direction == 0 || direction == 1);
    }

    private int deliverSome(int child, int direction, int count) {
        if (!isQueue(child, direction) || count < 1 || count > 9) {
            return INVALID;
        }
        List<Integer> queue = queue(child, direction);
        if (queue.isEmpty()) {
            return ILLEGAL;
        }
        int parent = world.proxies.get(child).parent;
        int learned = 0;
        while (count-- > 0 && !queue.isEmpty()) {
            int update = queue.remove(0);
            boolean news = direction == 0 ? arrive(parent, child, update) : arrive(child, parent, update);
            learned += news ? 1 : 0;
        }
        return learned;
    }

    public int deliver(int child, int direction, int count) {
        World before = world.copy();
        int answer = deliverSome(child, direction, count);
        if (answer >= 0) {
            save(before);
        }
        return answer;
    }

    private int loseSome(int child, int direction, int count) {
        if (!isQueue(child, direction) || count < 1 || count > 9) {
            return INVALID;
        }
        List<Integer> queue = queue(child, direction);
        if (queue.isEmpty()) {
            return ILLEGAL;
        }
        int before = queue.size();
        while (count-- > 0 && !queue.isEmpty()) {
            queue.remove(0);
            world.lost++;
        }
        return before - queue.size();
    }

    public int lose(int child, int direction, int count) {
        World before = world.copy();
        int answer = loseSome(child, direction, count);
        if (answer >= 0) {
            save(before);
        }
        return answer;
    }

    public int queued(int child, int direction, int index) {
        if (!isQueue(child, direction) || index < -1) {
            return INVALID;
        }
        List<Integer> queue = queue(child, direction);
        return index == -1 ? queue.size() : index < queue.size() ? queue.get(index) : NONE;
    }

    public int bound(int proxy, int origin) {
        return isProxy(proxy) && isOrigin(origin) ? boundOf(world.proxies.get(proxy).known, origin) : INVALID;
    }

    public int exception(int proxy, int origin, int index) {
        if (!isProxy(proxy) || !isOrigin(origin) || index < -1) {
            return INVALID;
        }
        Set<Integer> known = world.proxies.get(proxy).known;
        List<Integer> gaps = gaps(known, origin);
        return index == -1 ? rangesOf(known, origin) : index < gaps.size() ? gaps.get(index) : NONE;
    }

    public int served(int proxy, int origin) {
        return isProxy(proxy) && isOrigin(origin) ? prefix(proxy, origin) : INVALID;
    }

    public int status(int proxy, int origin, int version) {
        if (!isProxy(proxy) || !isUpdate(origin, version)) {
            return INVALID;
        }
        int update = 100 * origin + version;
        Proxy it = world.proxies.get(proxy);
        if (!servesOne(proxy, update)) {
            return it.known.contains(update) ? 1 : 0;
        }
        return it.kept.contains(update) ? 3 : 2;
    }

    public int missing(int proxy, int origin, int version) {
        if (!isProxy(proxy) || !isUpdate(origin, version)) {
            return INVALID;
        }
        Set<Integer> needs = new HashSet<>(world.needs.get(100 * origin + version));
        needs.removeAll(world.proxies.get(proxy).known);
        return needs.size();
    }

    public int kept(int proxy, int index) {
        if (!isProxy(proxy) || index < 0) {
            return INVALID;
        }
        List<Integer> kept = world.proxies.get(proxy).kept;
        return index < kept.size() ? kept.get(index) : NONE;
    }

    public int read(int proxy, int origin, int version) {
        if (!isProxy(proxy) || !isUpdate(origin, version)) {
            return INVALID;
        }
        int update = 100 * origin + version;
        if (!servesOne(proxy, update)) {
            return ILLEGAL;
        }
        List<Integer> way = above(proxy);
        way.add(0, proxy);
        for (int hops = 0; hops < way.size(); hops++) {
            if (world.proxies.get(way.get(hops)).kept.contains(update)) {
                save(world.copy());
                if (hops > 0) {
                    keep(proxy, update);
                }
                return hops;
            }
        }
        return NONE;
    }

    /** Adds to sums[0] what all on the way learned; answers what this proxy learned. */
    private int askFrom(int proxy, int[] sums) {
        int parent = world.proxies.get(proxy).parent;
        if (parent != 0) {
            askFrom(parent, sums);
        }
        List<Integer> gaps = new ArrayList<>();
        for (int origin = 0; origin < 4; origin++) {
            for (int version : gaps(world.proxies.get(proxy).known, origin)) {
                gaps.add(100 * origin + version);
            }
        }
        int learned = 0;
        for (int update : gaps) {
            if (world.proxies.get(parent).known.contains(update)) {
                learned += arrive(proxy, parent, update) ? 1 : 0;
            }
        }
        sums[0] += learned;
        return learned;
    }

    private int askOne(int proxy) {
        if (!isProxy(proxy) || proxy == 0) {
            return INVALID;
        }
        int refused = world.refused;
        int[] sums = new int[1];
        int learned = askFrom(proxy, sums);
        return sums[0] == 0 && world.refused == refused ? NONE : learned;
    }

    public int ask(int proxy) {
        World before = world.copy();
        int answer = askOne(proxy);
        if (answer >= 0) {
            save(before);
        }
        return answer;
    }

    public int covers(int proxy, int other) {
        if (!isProxy(proxy) || !isProxy(other)) {
            return INVALID;
        }
        return world.proxies.get(proxy).known.containsAll(world.proxies.get(other).known) ? 1 : 0;
    }

    public int upToDate() {
        int count = 0;
        for (Proxy proxy : world.proxies) {
            count += proxy.known.size() == count(3) ? 1 : 0;
        }
        return count;
    }

    public int appendCharacter(int character) {
        if (character < 0 || character > 255) {
            return INVALID;
        }
        if (text.length() == 100) {
            return FULL;
        }
        text += (char) character;
        return text.length();
    }

    public int clearText() {
        int length = text.length();
        text = "";
        return length;
    }

    public int runScript() {
        String proxies = "[0-" + (world.proxies.size() - 1) + "]";
        String children = world.proxies.size() == 1 ? "[^\\x00-\\xff]" : "[1-" + (world.proxies.size() - 1) + "]";
        String whole = "(w[0-3]|a" + proxies + "|[udxy]" + children + "[1-9])*";
        String begun = whole + "(w|a|[udxy](" + children + ")?)?";
        for (int length = 1; length <= text.length(); length++) {
            if (!text.substring(0, length).replace(" ", "").matches(begun)) {
                return -10 - (length - 1);
            }
        }
        String commands = text.replace(" ", "");
        if (!commands.matches(whole)) {
            return -10 - text.length();
        }
        save(world.copy());
        text = "";
        int done = 0;
        while (!commands.isEmpty()) {
            char letter = commands.charAt(0);
            int length = letter == 'w' || letter == 'a' ? 2 : 3;
            int number = commands.charAt(1) - '0';
            int count = commands.charAt(length - 1) - '0';
            int answer = letter == 'w' ? writeOne(number)
                    : letter == 'a' ? askOne(number)
                    : letter == 'u' ? deliverSome(number, 0, count)
                    : letter == 'd' ? deliverSome(number, 1, count)
                    : letter == 'x' ? loseSome(number, 0, count)
                    : loseSome(number, 1, count);
            done += answer >= 0 ? 1 : 0;
            commands = commands.substring(length);
        }
        return done;
    }

    public int undo() {
        if (saved.isEmpty()) {
            return ILLEGAL;
        }
        world = saved.removeLast();
        return saved.size();
    }
}
