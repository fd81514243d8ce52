/**
 * A simulation of a hierarchy of proxies that pass updates on. ../shared/DOC.md says what each method does.
 *
 * <p>The face below looks at arguments and keeps the states for undo(); what happens in the hierarchy stands in
 * Network, which runScript() uses as well, so that a command of a script and a call obey the same rules.
 */
public final class ProxyVersions {
    public static final int INVALID_ARGUMENT = -1;
    public static final int ILLEGAL_STATE = -2;
    public static final int CAPACITY_EXCEEDED = -3;
    public static final int NONE = -9;

    private static final int MAX_PROXIES = 8;
    private static final int ORIGINS = 4;
    private static final int MAX_VERSIONS = 24;
    private static final int MAX_UPDATES = ORIGINS * MAX_VERSIONS;
    private static final int QUEUE_ROOM = 12;
    private static final int MAX_TAKEN = 9;
    private static final int MAX_RANGES = 8;
    private static final int MAX_MEMORY = 12;
    private static final int MAX_SAVED = 6;
    private static final int TEXT_ROOM = 100;
    private static final int MAX_CHARACTER = 255;

    private static final int ROOT = 0;
    private static final int NOBODY = -1;
    private static final int UP = 0;
    private static final int DOWN = 1;
    /** An update is held as 100 * origin + version, the number that queued() and kept() answer. */
    private static final int ORIGIN_FACTOR = 100;
    /** As an index it asks for how many there are. */
    private static final int HOW_MANY = -1;
    private static final int SCRIPT_ERROR = -10;

    private final State state;
    private final Causality causality;
    private final Network network;
    private final History history;
    private final Line text;
    private final Script script;

    public ProxyVersions() {
        state = new State();
        causality = new Causality(state);
        network = new Network(state, causality);
        history = new History();
        text = new Line(TEXT_ROOM);
        script = new Script();
    }

    public int addProxy(int parent) {
        history.stage(state);
        return commitIfDone(network.insertProxy(parent));
    }

    public int setHome(int origin, int proxy) {
        history.stage(state);
        return commitIfDone(network.changeHome(origin, proxy));
    }

    public int setLimits(int ranges, int memory) {
        history.stage(state);
        return commitIfDone(network.changeLimits(ranges, memory));
    }

    public int proxy(int proxy, int what) {
        if (!state.hasProxy(proxy)) {
            return INVALID_ARGUMENT;
        }
        switch (what) {
            case 0:
                return proxy == ROOT ? NONE : state.parentOf(proxy);
            case 1:
                return state.stepsToRoot(proxy);
            case 2:
                return state.childrenOf(proxy);
            case 3:
                return state.knownCount(proxy);
            case 4:
                return causality.servedCount(proxy);
            case 5:
                return state.contentsOf(proxy).length();
            case 6:
                return state.vectorSize(proxy);
            case 7:
                return state.exceptionCount(proxy);
            default:
                return INVALID_ARGUMENT;
        }
    }

    public int count(int what) {
        switch (what) {
            case 0:
                return state.proxies;
            case 1:
                return state.rangeLimit;
            case 2:
                return state.memory;
            case 3:
                return state.writtenCount();
            case 4:
                return state.refusals;
            case 5:
                return state.overflows;
            case 6:
                return state.losses;
            case 7:
                return state.evictions;
            case 8:
                return history.savedCount();
            default:
                return INVALID_ARGUMENT;
        }
    }

    public int write(int origin) {
        history.stage(state);
        return commitIfDone(network.makeWrite(origin));
    }

    public int cause(int origin, int version, int of) {
        if (!isOrigin(of) || !state.wasWritten(origin, version)) {
            return INVALID_ARGUMENT;
        }
        return state.causeOf(origin, version, of);
    }

    public int deliver(int child, int direction, int count) {
        history.stage(state);
        return commitIfDone(network.deliverFirst(child, direction, count));
    }

    public int lose(int child, int direction, int count) {
        history.stage(state);
        return commitIfDone(network.loseFirst(child, direction, count));
    }

    public int queued(int child, int direction, int index) {
        if (!state.hasQueue(child, direction) || index < HOW_MANY) {
            return INVALID_ARGUMENT;
        }
        Line queue = state.queueOf(child, direction);
        if (index == HOW_MANY) {
            return queue.length();
        }
        return index < queue.length() ? queue.at(index) : NONE;
    }

    public int bound(int proxy, int origin) {
        if (!state.hasProxy(proxy) || !isOrigin(origin)) {
            return INVALID_ARGUMENT;
        }
        return Versions.greatest(state.knownOf(proxy, origin));
    }

    public int exception(int proxy, int origin, int index) {
        if (!state.hasProxy(proxy) || !isOrigin(origin) || index < HOW_MANY) {
            return INVALID_ARGUMENT;
        }
        int known = state.knownOf(proxy, origin);
        if (index == HOW_MANY) {
            return Versions.rangesIn(known);
        }
        return index < Versions.exceptionsIn(known) ? Versions.exceptionAt(known, index) : NONE;
    }

    public int served(int proxy, int origin) {
        if (!state.hasProxy(proxy) || !isOrigin(origin)) {
            return INVALID_ARGUMENT;
        }
        return causality.servedOf(proxy, origin);
    }

    public int status(int proxy, int origin, int version) {
        if (!state.hasProxy(proxy) || !state.wasWritten(origin, version)) {
            return INVALID_ARGUMENT;
        }
        if (!state.knows(proxy, origin, version)) {
            return 0;
        }
        if (version > causality.servedOf(proxy, origin)) {
            return 1;
        }
        return state.keeps(proxy, updateOf(origin, version)) ? 3 : 2;
    }

    public int missing(int proxy, int origin, int version) {
        if (!state.hasProxy(proxy) || !state.wasWritten(origin, version)) {
            return INVALID_ARGUMENT;
        }
        return causality.countMissing(proxy, origin, version);
    }

    public int kept(int proxy, int index) {
        if (!state.hasProxy(proxy) || index < 0) {
            return INVALID_ARGUMENT;
        }
        Line contents = state.contentsOf(proxy);
        return index < contents.length() ? contents.at(index) : NONE;
    }

    public int read(int proxy, int origin, int version) {
        history.stage(state);
        return commitIfDone(network.fetchContent(proxy, origin, version));
    }

    public int ask(int proxy) {
        history.stage(state);
        return commitIfDone(network.askUpward(proxy));
    }

    public int covers(int proxy, int other) {
        if (!state.hasProxy(proxy) || !state.hasProxy(other)) {
            return INVALID_ARGUMENT;
        }
        for (int origin = 0; origin < ORIGINS; origin++) {
            if ((state.knownOf(other, origin) & ~state.knownOf(proxy, origin)) != 0) {
                return 0;
            }
        }
        return 1;
    }

    public int upToDate() {
        int written = state.writtenCount();
        int current = 0;
        for (int proxy = 0; proxy < state.proxies; proxy++) {
            if (causality.servedCount(proxy) == written) {
                current++;
            }
        }
        return current;
    }

    public int appendCharacter(int character) {
        if (character < 0 || character > MAX_CHARACTER) {
            return INVALID_ARGUMENT;
        }
        return text.append(character) ? text.length() : CAPACITY_EXCEEDED;
    }

    public int clearText() {
        int previous = text.length();
        text.clear();
        return previous;
    }

    public int runScript() {
        int error = script.parse(text, state.proxies);
        if (error != Script.NO_ERROR) {
            return SCRIPT_ERROR - error;
        }
        history.stage(state);
        history.commit();
        text.clear();
        int carriedOut = 0;
        for (int index = 0; index < script.length(); index++) {
            if (runCommand(script.letterAt(index), script.numberAt(index), script.countAt(index)) >= 0) {
                carriedOut++;
            }
        }
        return carriedOut;
    }

    public int undo() {
        return history.restore(state) ? history.savedCount() : ILLEGAL_STATE;
    }

    private int runCommand(int letter, int number, int count) {
        switch (letter) {
            case 'w':
                return network.makeWrite(number);
            case 'u':
                return network.deliverFirst(number, UP, count);
            case 'd':
                return network.deliverFirst(number, DOWN, count);
            case 'x':
                return network.loseFirst(number, UP, count);
            case 'y':
                return network.loseFirst(number, DOWN, count);
            case 'a':
                return network.askUpward(number);
            default:
                return INVALID_ARGUMENT;
        }
    }

    /** Error codes and NONE are negative, what a successful call answers is not. */
    private int commitIfDone(int answer) {
        if (answer >= 0) {
            history.commit();
        }
        return answer;
    }

    private static boolean isOrigin(int origin) {
        return origin >= 0 && origin < ORIGINS;
    }

    private static int updateOf(int origin, int version) {
        return ORIGIN_FACTOR * origin + version;
    }

    private static int originOf(int update) {
        return update / ORIGIN_FACTOR;
    }

    private static int versionOf(int update) {
        return update % ORIGIN_FACTOR;
    }

    /** Numbers in the order in which they came, as many as there is room for. */
    private static final class Line {
        private final int[] cells;
        private int size;

        Line(int room) {
            cells = new int[Math.max(room, 0)];
        }

        int length() {
            return size;
        }

        int at(int index) {
            return index >= 0 && index < size && index < cells.length ? cells[index] : 0;
        }

        boolean has(int number) {
            for (int index = 0; index < size && index < cells.length; index++) {
                if (cells[index] == number) {
                    return true;
                }
            }
            return false;
        }

        /** Answers whether there was room. */
        boolean append(int number) {
            if (size < 0 || size >= cells.length) {
                return false;
            }
            cells[size] = number;
            size++;
            return true;
        }

        void removeAt(int index) {
            if (index < 0 || index >= size) {
                return;
            }
            for (int next = index + 1; next < size && next < cells.length; next++) {
                cells[next - 1] = cells[next];
            }
            size--;
        }

        void clear() {
            size = 0;
        }

        void copyFrom(Line other) {
            System.arraycopy(other.cells, 0, cells, 0, Math.min(other.cells.length, cells.length));
            size = Math.min(other.size, cells.length);
        }
    }

    /** A set of versions of one origin in the bits of an int: version 1 in the lowest one. */
    private static final class Versions {
        private Versions() {
        }

        static boolean contains(int set, int version) {
            return version >= 1 && version <= MAX_VERSIONS && (set >> (version - 1) & 1) != 0;
        }

        static int with(int set, int version) {
            return version >= 1 && version <= MAX_VERSIONS ? set | 1 << (version - 1) : set;
        }

        static int sizeOf(int set) {
            return Integer.bitCount(set);
        }

        static int greatest(int set) {
            int version = MAX_VERSIONS;
            while (version > 0 && (set >> (version - 1) & 1) == 0) {
                version--;
            }
            return version;
        }

        /** The greatest number such that all versions from 1 to it are in the set. */
        static int prefixOf(int set) {
            int version = 0;
            while (version < MAX_VERSIONS && (set >> version & 1) != 0) {
                version++;
            }
            return version;
        }

        /** Each range of exceptions has one end: a version out of the set with its successor in it. */
        static int rangesIn(int set) {
            return Integer.bitCount(~set & set >> 1);
        }

        static int exceptionsIn(int set) {
            return greatest(set) - sizeOf(set);
        }

        static int exceptionAt(int set, int index) {
            int before = 0;
            for (int version = 1; version <= MAX_VERSIONS; version++) {
                if (!contains(set, version)) {
                    if (before == index) {
                        return version;
                    }
                    before++;
                }
            }
            return 0;
        }
    }

    /** All that undo() brings back. An index out of range reads 0, or a line without room, and sets nothing. */
    private static final class State {
        private int proxies = 1;
        private int rangeLimit = MAX_RANGES;
        private int memory = MAX_MEMORY;
        private int refusals;
        private int overflows;
        private int losses;
        private int evictions;
        private final int[] parents = new int[MAX_PROXIES];
        private final int[] homes = new int[ORIGINS];
        private final int[] written = new int[ORIGINS];
        private final int[] known = new int[MAX_PROXIES * ORIGINS];
        private final int[] causes = new int[MAX_UPDATES * ORIGINS];
        private final Line[] contents = new Line[MAX_PROXIES];
        private final Line[] upQueues = new Line[MAX_PROXIES];
        private final Line[] downQueues = new Line[MAX_PROXIES];
        private final Line nothing = new Line(0);

        State() {
            for (int proxy = 0; proxy < MAX_PROXIES; proxy++) {
                // a proxy below the root keeps one content too many for the moment before it evicts one
                contents[proxy] = new Line(proxy == ROOT ? MAX_UPDATES : MAX_MEMORY + 1);
                upQueues[proxy] = new Line(proxy == ROOT ? 0 : QUEUE_ROOM);
                downQueues[proxy] = new Line(proxy == ROOT ? 0 : QUEUE_ROOM);
            }
        }

        void copyFrom(State other) {
            proxies = other.proxies;
            rangeLimit = other.rangeLimit;
            memory = other.memory;
            refusals = other.refusals;
            overflows = other.overflows;
            losses = other.losses;
            evictions = other.evictions;
            System.arraycopy(other.parents, 0, parents, 0, MAX_PROXIES);
            System.arraycopy(other.homes, 0, homes, 0, ORIGINS);
            System.arraycopy(other.written, 0, written, 0, ORIGINS);
            System.arraycopy(other.known, 0, known, 0, MAX_PROXIES * ORIGINS);
            System.arraycopy(other.causes, 0, causes, 0, MAX_UPDATES * ORIGINS);
            for (int proxy = 0; proxy < MAX_PROXIES; proxy++) {
                contents[proxy].copyFrom(other.contents[proxy]);
                upQueues[proxy].copyFrom(other.upQueues[proxy]);
                downQueues[proxy].copyFrom(other.downQueues[proxy]);
            }
        }

        boolean hasProxy(int proxy) {
            return proxy >= 0 && proxy < proxies;
        }

        boolean hasChild(int child) {
            return child > ROOT && child < proxies;
        }

        boolean hasQueue(int child, int direction) {
            return hasChild(child) && (direction == UP || direction == DOWN);
        }

        int parentOf(int proxy) {
            return proxy >= 0 && proxy < parents.length ? parents[proxy] : ROOT;
        }

        boolean isChildOf(int child, int parent) {
            return hasChild(child) && parentOf(child) == parent;
        }

        int childrenOf(int parent) {
            int children = 0;
            for (int child = 1; child < proxies; child++) {
                if (isChildOf(child, parent)) {
                    children++;
                }
            }
            return children;
        }

        int stepsToRoot(int proxy) {
            int steps = 0;
            for (int at = proxy; at != ROOT && steps < MAX_PROXIES; at = parentOf(at)) {
                steps++;
            }
            return steps;
        }

        boolean isAbove(int upper, int proxy) {
            int at = proxy;
            for (int steps = 0; at != ROOT && steps < MAX_PROXIES; steps++) {
                at = parentOf(at);
                if (at == upper) {
                    return true;
                }
            }
            return false;
        }

        /** Takes the next number; the caller has looked whether there is one. */
        int addChild(int parent) {
            int child = proxies;
            if (child >= 0 && child < parents.length) {
                parents[child] = parent;
                proxies++;
            }
            return child;
        }

        int homeOf(int origin) {
            return origin >= 0 && origin < homes.length ? homes[origin] : ROOT;
        }

        void setHomeOf(int origin, int proxy) {
            if (origin >= 0 && origin < homes.length) {
                homes[origin] = proxy;
            }
        }

        int writtenOf(int origin) {
            return origin >= 0 && origin < written.length ? written[origin] : 0;
        }

        void setWrittenOf(int origin, int version) {
            if (origin >= 0 && origin < written.length) {
                written[origin] = version;
            }
        }

        boolean wasWritten(int origin, int version) {
            return isOrigin(origin) && version >= 1 && version <= writtenOf(origin);
        }

        int writtenCount() {
            int count = 0;
            for (int origin = 0; origin < ORIGINS; origin++) {
                count += writtenOf(origin);
            }
            return count;
        }

        int knownOf(int proxy, int origin) {
            int index = proxy * ORIGINS + origin;
            return index >= 0 && index < known.length ? known[index] : 0;
        }

        boolean knows(int proxy, int origin, int version) {
            return Versions.contains(knownOf(proxy, origin), version);
        }

        void addKnown(int proxy, int origin, int version) {
            int index = proxy * ORIGINS + origin;
            if (index >= 0 && index < known.length) {
                known[index] = Versions.with(known[index], version);
            }
        }

        int knownCount(int proxy) {
            int count = 0;
            for (int origin = 0; origin < ORIGINS; origin++) {
                count += Versions.sizeOf(knownOf(proxy, origin));
            }
            return count;
        }

        int exceptionCount(int proxy) {
            int count = 0;
            for (int origin = 0; origin < ORIGINS; origin++) {
                count += Versions.exceptionsIn(knownOf(proxy, origin));
            }
            return count;
        }

        int vectorSize(int proxy) {
            int size = 0;
            for (int origin = 0; origin < ORIGINS; origin++) {
                int set = knownOf(proxy, origin);
                size += Versions.rangesIn(set) + (set != 0 ? 1 : 0);
            }
            return size;
        }

        /** How many ranges of exceptions the proxy's vector would have if it knew this version too. */
        int rangesWith(int proxy, int origin, int version) {
            int ranges = 0;
            for (int each = 0; each < ORIGINS; each++) {
                int set = knownOf(proxy, each);
                ranges += Versions.rangesIn(each == origin ? Versions.with(set, version) : set);
            }
            return ranges;
        }

        int causeOf(int origin, int version, int of) {
            int index = (origin * MAX_VERSIONS + version - 1) * ORIGINS + of;
            return index >= 0 && index < causes.length ? causes[index] : 0;
        }

        /** Answers whether none of the update's numbers of causes is above the number given for that origin. */
        boolean hasCausesIn(int origin, int version, int[] numbers) {
            int first = (origin * MAX_VERSIONS + version - 1) * ORIGINS;
            for (int of = 0; of < ORIGINS; of++) {
                int index = first + of;
                if (index < 0 || index >= causes.length || of >= numbers.length || causes[index] > numbers[of]) {
                    return false;
                }
            }
            return true;
        }

        void setCause(int origin, int version, int of, int number) {
            int index = (origin * MAX_VERSIONS + version - 1) * ORIGINS + of;
            if (index >= 0 && index < causes.length) {
                causes[index] = number;
            }
        }

        Line contentsOf(int proxy) {
            return hasProxy(proxy) && proxy < contents.length ? contents[proxy] : nothing;
        }

        boolean keeps(int proxy, int update) {
            return contentsOf(proxy).has(update);
        }

        Line queueOf(int child, int direction) {
            if (!hasChild(child) || child >= MAX_PROXIES) {
                return nothing;
            }
            return direction == UP ? upQueues[child] : downQueues[child];
        }
    }

    /** What follows from the causes of updates: what a proxy may serve, and what keeps it from serving. */
    private static final class Causality {
        private final State state;
        private final int[] prefixes = new int[ORIGINS];
        private final int[] needs = new int[ORIGINS];

        Causality(State state) {
            this.state = state;
        }

        int servedOf(int proxy, int origin) {
            findServed(proxy);
            return prefixFound(origin);
        }

        int servedCount(int proxy) {
            findServed(proxy);
            int count = 0;
            for (int origin = 0; origin < ORIGINS; origin++) {
                count += prefixes[origin];
            }
            return count;
        }

        /**
         * Starts with all that is known without a gap and cuts off what lacks a cause, until nothing lacks one: so
         * the greatest choice remains. prefixFound() tells it until the next search.
         */
        void findServed(int proxy) {
            for (int origin = 0; origin < ORIGINS; origin++) {
                prefixes[origin] = Versions.prefixOf(state.knownOf(proxy, origin));
            }
            boolean cut = true;
            for (int pass = 0; pass <= MAX_UPDATES && cut; pass++) {
                cut = false;
                for (int origin = 0; origin < ORIGINS; origin++) {
                    int version = 0;
                    while (version < prefixes[origin] && state.hasCausesIn(origin, version + 1, prefixes)) {
                        version++;
                    }
                    cut = cut || version < prefixes[origin];
                    prefixes[origin] = version;
                }
            }
        }

        int prefixFound(int origin) {
            return origin >= 0 && origin < prefixes.length ? prefixes[origin] : 0;
        }

        int countMissing(int proxy, int origin, int version) {
            findNeeds(origin, version);
            int missing = 0;
            for (int each = 0; each < ORIGINS; each++) {
                for (int needed = 1; needed <= MAX_VERSIONS && needed <= needs[each]; needed++) {
                    if (!state.knows(proxy, each, needed)) {
                        missing++;
                    }
                }
            }
            return missing;
        }

        /** An update has all versions before it among its causes, so that a number for each origin is enough. */
        private void findNeeds(int origin, int version) {
            for (int each = 0; each < ORIGINS; each++) {
                needs[each] = each == origin ? version : 0;
            }
            boolean grown = true;
            for (int pass = 0; pass <= MAX_UPDATES && grown; pass++) {
                grown = false;
                for (int each = 0; each < ORIGINS; each++) {
                    grown = addCausesOf(each) || grown;
                }
            }
        }

        private boolean addCausesOf(int origin) {
            boolean grown = false;
            int last = origin >= 0 && origin < needs.length ? needs[origin] : 0;
            for (int version = 1; version <= MAX_VERSIONS && version <= last; version++) {
                for (int of = 0; of < ORIGINS; of++) {
                    int number = state.causeOf(origin, version, of);
                    if (number > needs[of]) {
                        needs[of] = number;
                        grown = true;
                    }
                }
            }
            return grown;
        }
    }

    /** What happens in the hierarchy. A method answers as the public one that it stands behind. */
    private static final class Network {
        private final State state;
        private final Causality causality;
        private final Line gapsToFill = new Line(MAX_UPDATES);

        Network(State state, Causality causality) {
            this.state = state;
            this.causality = causality;
        }

        int insertProxy(int parent) {
            if (!state.hasProxy(parent)) {
                return INVALID_ARGUMENT;
            }
            if (state.proxies >= MAX_PROXIES) {
                return CAPACITY_EXCEEDED;
            }
            return state.addChild(parent);
        }

        int changeHome(int origin, int proxy) {
            if (!isOrigin(origin) || !state.hasProxy(proxy)) {
                return INVALID_ARGUMENT;
            }
            if (state.writtenOf(origin) > 0) {
                return ILLEGAL_STATE;
            }
            int previous = state.homeOf(origin);
            state.setHomeOf(origin, proxy);
            return previous;
        }

        int changeLimits(int ranges, int memory) {
            if (ranges < 0 || ranges > MAX_RANGES || memory < 1 || memory > MAX_MEMORY) {
                return INVALID_ARGUMENT;
            }
            boolean changes = ranges != state.rangeLimit || memory != state.memory;
            state.rangeLimit = ranges;
            state.memory = memory;
            return changes ? 1 : 0;
        }

        int makeWrite(int origin) {
            if (!isOrigin(origin)) {
                return INVALID_ARGUMENT;
            }
            if (state.writtenOf(origin) >= MAX_VERSIONS) {
                return CAPACITY_EXCEEDED;
            }
            int home = state.homeOf(origin);
            int version = state.writtenOf(origin) + 1;
            causality.findServed(home);
            for (int of = 0; of < ORIGINS; of++) {
                state.setCause(origin, version, of, of == origin ? version - 1 : causality.prefixFound(of));
            }
            state.setWrittenOf(origin, version);
            arrive(home, NOBODY, updateOf(origin, version));
            return version;
        }

        int deliverFirst(int child, int direction, int count) {
            if (!state.hasQueue(child, direction) || !isTakeable(count)) {
                return INVALID_ARGUMENT;
            }
            Line queue = state.queueOf(child, direction);
            if (queue.length() == 0) {
                return ILLEGAL_STATE;
            }
            int parent = state.parentOf(child);
            int receiver = direction == UP ? parent : child;
            int sender = direction == UP ? child : parent;
            int learned = 0;
            for (int taken = 0; taken < count && queue.length() > 0; taken++) {
                int update = queue.at(0);
                queue.removeAt(0);
                if (arrive(receiver, sender, update)) {
                    learned++;
                }
            }
            return learned;
        }

        int loseFirst(int child, int direction, int count) {
            if (!state.hasQueue(child, direction) || !isTakeable(count)) {
                return INVALID_ARGUMENT;
            }
            Line queue = state.queueOf(child, direction);
            if (queue.length() == 0) {
                return ILLEGAL_STATE;
            }
            int removed = Math.min(count, queue.length());
            for (int times = 0; times < removed; times++) {
                queue.removeAt(0);
            }
            state.losses += removed;
            return removed;
        }

        int fetchContent(int proxy, int origin, int version) {
            if (!state.hasProxy(proxy) || !state.wasWritten(origin, version)) {
                return INVALID_ARGUMENT;
            }
            if (version > causality.servedOf(proxy, origin)) {
                return ILLEGAL_STATE;
            }
            int update = updateOf(origin, version);
            int hops = hopsToContent(proxy, update);
            if (hops > 0) {
                keepContent(proxy, update);
            }
            return hops;
        }

        private int hopsToContent(int proxy, int update) {
            int at = proxy;
            for (int hops = 0; hops < MAX_PROXIES; hops++) {
                if (state.keeps(at, update)) {
                    return hops;
                }
                if (at == ROOT) {
                    return NONE;
                }
                at = state.parentOf(at);
            }
            return NONE;
        }

        int askUpward(int proxy) {
            if (!state.hasChild(proxy)) {
                return INVALID_ARGUMENT;
            }
            int refusalsBefore = state.refusals;
            int learnedByAll = 0;
            int learned = 0;
            // a parent has a smaller number: ascending numbers ask in the order from the root down
            for (int asking = 1; asking < MAX_PROXIES && asking <= proxy; asking++) {
                if (asking == proxy || state.isAbove(asking, proxy)) {
                    findGapsToFill(asking);
                    learned = 0;
                    for (int index = 0; index < gapsToFill.length(); index++) {
                        if (arrive(asking, state.parentOf(asking), gapsToFill.at(index))) {
                            learned++;
                        }
                    }
                    learnedByAll += learned;
                }
            }
            return learnedByAll == 0 && state.refusals == refusalsBefore ? NONE : learned;
        }

        /** The exceptions of the proxy that its parent knows. */
        private void findGapsToFill(int proxy) {
            int parent = state.parentOf(proxy);
            gapsToFill.clear();
            for (int origin = 0; origin < ORIGINS; origin++) {
                int bound = Versions.greatest(state.knownOf(proxy, origin));
                for (int version = 1; version < bound; version++) {
                    if (!state.knows(proxy, origin, version) && state.knows(parent, origin, version)) {
                        gapsToFill.append(updateOf(origin, version));
                    }
                }
            }
        }

        /** Answers whether the proxy learns the update. What comes from nobody is a write, which is never refused. */
        private boolean arrive(int proxy, int sender, int update) {
            int origin = originOf(update);
            int version = versionOf(update);
            if (state.knows(proxy, origin, version)) {
                return false;
            }
            if (proxy != ROOT && sender != NOBODY
                    && state.rangesWith(proxy, origin, version) > state.rangeLimit) {
                state.refusals++;
                return false;
            }
            state.addKnown(proxy, origin, version);
            keepContent(proxy, update);
            passOn(proxy, sender, update);
            return true;
        }

        private void keepContent(int proxy, int update) {
            Line contents = state.contentsOf(proxy);
            contents.append(update);
            if (proxy != ROOT && contents.length() > state.memory) {
                causality.findServed(proxy);
                contents.removeAt(firstServed(contents));
                state.evictions++;
            }
        }

        /** The index of the first content in the prefixes found, or of the first one of all. */
        private int firstServed(Line contents) {
            for (int index = 0; index < contents.length(); index++) {
                int update = contents.at(index);
                if (versionOf(update) <= causality.prefixFound(originOf(update))) {
                    return index;
                }
            }
            return 0;
        }

        private void passOn(int proxy, int sender, int update) {
            if (proxy != ROOT && state.parentOf(proxy) != sender) {
                enqueue(state.queueOf(proxy, UP), update);
            }
            for (int child = 1; child < state.proxies; child++) {
                if (child != sender && state.isChildOf(child, proxy)) {
                    enqueue(state.queueOf(child, DOWN), update);
                }
            }
        }

        private void enqueue(Line queue, int update) {
            if (!queue.append(update)) {
                state.overflows++;
            }
        }

        private static boolean isTakeable(int count) {
            return count >= 1 && count <= MAX_TAKEN;
        }
    }

    /** The saved states, in a ring with one slot more than are saved: a state waits there until its call is done. */
    private static final class History {
        private static final int SLOTS = MAX_SAVED + 1;

        private final State[] slots = new State[SLOTS];
        private int next;
        private int saved;

        History() {
            for (int slot = 0; slot < SLOTS; slot++) {
                slots[slot] = new State();
            }
        }

        int savedCount() {
            return saved;
        }

        void stage(State state) {
            slots[Math.floorMod(next, SLOTS)].copyFrom(state);
        }

        void commit() {
            next = Math.floorMod(next + 1, SLOTS);
            saved = Math.min(saved + 1, MAX_SAVED);
        }

        /** Answers whether there was a saved state. */
        boolean restore(State state) {
            if (saved == 0) {
                return false;
            }
            next = Math.floorMod(next - 1, SLOTS);
            saved--;
            state.copyFrom(slots[next]);
            return true;
        }
    }

    /** The commands of a text: for each a letter, a number (of an origin or a proxy) and a count (0 without one). */
    private static final class Script {
        static final int NO_ERROR = -1;

        private final Line letters = new Line(TEXT_ROOM);
        private final Line numbers = new Line(TEXT_ROOM);
        private final Line counts = new Line(TEXT_ROOM);

        int length() {
            return letters.length();
        }

        int letterAt(int index) {
            return letters.at(index);
        }

        int numberAt(int index) {
            return numbers.at(index);
        }

        int countAt(int index) {
            return counts.at(index);
        }

        /** Answers the error position, or NO_ERROR. */
        int parse(Line text, int proxies) {
            letters.clear();
            numbers.clear();
            counts.clear();
            for (int offset = 0; offset < text.length(); offset++) {
                int sign = text.at(offset);
                if (sign != ' ' && !takeSign(sign, proxies)) {
                    return offset;
                }
            }
            return counts.length() == letters.length() ? NO_ERROR : text.length();
        }

        /** The lengths of the three lines tell what is due: a command is open while it has no count. */
        private boolean takeSign(int sign, int proxies) {
            if (counts.length() == letters.length()) {
                return takeLetter(sign);
            }
            if (numbers.length() < letters.length()) {
                return takeNumber(sign - '0', proxies);
            }
            return takeCount(sign - '0');
        }

        private boolean takeLetter(int sign) {
            return (standsAlone(sign) || namesQueue(sign)) && letters.append(sign);
        }

        private boolean takeNumber(int number, int proxies) {
            int letter = letters.at(letters.length() - 1);
            int least = namesQueue(letter) ? 1 : 0;
            int end = letter == 'w' ? ORIGINS : proxies;
            if (number < least || number >= end) {
                return false;
            }
            if (standsAlone(letter)) {
                counts.append(0);
            }
            return numbers.append(number);
        }

        private boolean takeCount(int count) {
            return count >= 1 && count <= MAX_TAKEN && counts.append(count);
        }

        private static boolean namesQueue(int letter) {
            return letter == 'u' || letter == 'd' || letter == 'x' || letter == 'y';
        }

        /** A write and an asking have no count. */
        private static boolean standsAlone(int letter) {
            return letter == 'w' || letter == 'a';
        }
    }
}
